/-! how loud, queasy, glad a coach's one is: the class -/
def zNz (k t r n b : Int32) : Int32 :=
  let u : Int32 := if r = 5 then n else 0
  if k = 1 then 2 * t + u else if k = 2 then t / 2 else if k = 3 then (if b = 0 then 2 * t + u + 5 else 0) else if k = 4 then t / 2 + n else if k = 5 then 0 else t
def zQy (k t r : Int32) : Int32 :=
  if k = 2 then 2 * t + r else if k = 3 then (if r = 5 then 0 else t) else if k = 4 then (2 * t + r) / 2 else if k = 5 then 0 else t
def zGd (k t r b : Int32) : Int32 :=
  let u : Int32 := if b = 0 then t else t + 10
  let v : Int32 := if r = 5 then u + 5 else u
  if k = 1 then v else if k = 2 then u - r else if k = 3 then 2 * v else if k = 4 then 3 else if k = 5 then -t else u
theorem zsp {c : Prop} [Decidable c] {u v : Int32} {J : zzJ} : (if c then some (u, J) else some (v, J)) = some (if c then u else v, J) := by
  split <;> rfl
theorem b_noiseBy {k t r n b : Int32} {J : zzJ} : F_X6_noiseBy k t r n b J = some (zNz k t r n b, J) := by
  unfold F_X6_noiseBy F_X6_noiseBy_13 zNz
  simp only [zsp]
  by_cases hr : r = 5
  · simp only [if_pos hr]
  · simp only [if_neg hr]
theorem b_queasyBy {k t r : Int32} {J : zzJ} : F_X6_queasyBy k t r J = some (zQy k t r, J) := by
  unfold F_X6_queasyBy zQy
  simp only [zsp]
theorem b_gladBy {k t r b : Int32} {J : zzJ} : F_X6_gladBy k t r b J = some (zGd k t r b, J) := by
  unfold F_X6_gladBy F_X6_gladBy_12 F_X6_gladBy_28 zGd
  simp only [zsp]
  by_cases hr : r = 5 <;> by_cases hb : b = 0
  · simp only [if_pos hr, if_pos hb]
  · simp only [if_pos hr, if_neg hb]
  · simp only [if_neg hr, if_pos hb]
  · simp only [if_neg hr, if_neg hb]
def zNoise (E : zEv2) (w : zVw) (t : Nat) (x : Int32) : Int32 :=
  if zSeat w x = -1 then 0 else zBnd (zNz (zIt (w 1) 8 x 0) (zTell E w t 0 x (w 0 1)) (zSeat w x / 4) (zIt (w 2) 8 x 0) (zOne (zWat w x))) 0 999
def zQueasy (E : zEv2) (w : zVw) (t : Nat) (x m : Int32) : Int32 :=
  if zSeat w x = -1 then 0 else zBnd (zQy (zIt (w 1) 8 x 0) (zTell E w t 1 x m) (zSeat w x / 4)) 0 99
def zGlad (E : zEv2) (w : zVw) (t : Nat) (x : Int32) : Int32 :=
  if zSeat w x = -1 then 0 else zGd (zIt (w 1) 8 x 0) (zTell E w t 2 x (w 0 1)) (zSeat w x / 4) (zOne (zNxt w x (zIt (w 3) 8 x 0)))
/-- what is the same has the same view -/
theorem zSame.w {a : Nat} {J J1 : zzJ} (hs : zSame a J J1) (h : zCoach a) : ∀ i, i < 6 → zW a J1 i = zW a J i := fun i hi => by
  unfold zW
  exact hs.2 (a + i) (by rcases h with h | h | h <;> omega) (by omega)
section LO
variable {E : zEv2} {n a t : Nat} {J : zzJ} {x m : Int32}
theorem cw_noise (h : zCoach a) (hE : zTxC E n (J.2 2) (J.2 3)) (ht : J.2 a 3 = nI t) (htn : t < n) : ∃ J1, F_X0_noise a x J = some (zNoise E (zW a J) t x, J1) ∧ zSame a J J1 := by
  unfold F_X0_noise zNoise
  rw [if_pos (co_kd h), cw_sits h, Option.bind_some]
  dsimp only
  by_cases hs : zSeat (zW a J) x = -1
  · rw [if_pos hs, if_pos (zOne0.2 (fun z => z hs))]
    exact ⟨J, rfl, zSame.rf⟩
  · rw [if_neg hs, if_neg (fun z => zOne0.1 z hs)]
    obtain ⟨J1, e1, s1⟩ := cw_telling (p := 0) (m := J.2 a 1) (x := x) h hE ht htn (by omega)
    have w1 := s1.w h
    have z1 := zW_eq w1 x
    have q1 : F_X0_telling a (0 : Int32) x (J.2 a 1) J = some (zTell E (zW a J) t 0 x (J.2 a 1), J1) := e1
    have q2 : F_X0_seatOf a x J1 = some (zSeat (zW a J) x, J1) := (cw_seatOf h).trans (by rw [z1.1])
    have q3 : F_X0_kindOf a x J1 = some (zIt (zW a J 1) 8 x 0, J1) := (co_kindOf h).trans (by rw [← z1.2.2.2.2.2.2.1]; rfl)
    have q4 : F_X0_numberOf a x J1 = some (zIt (zW a J 2) 8 x 0, J1) := (co_numberOf h).trans (by rw [← z1.2.2.1]; rfl)
    have q5 : F_X0_isWatched a x J1 = some (zOne (zWat (zW a J) x), J1) := (cw_isWatched h).trans (by rw [z1.2.2.2.2.2.1])
    refine ⟨J1, ?_, s1⟩
    rw [q1, Option.bind_some]
    dsimp only
    rw [q2, Option.bind_some]
    dsimp only
    rw [q3, Option.bind_some]
    dsimp only
    rw [q4, Option.bind_some]
    dsimp only
    rw [q5, Option.bind_some]
    dsimp only
    rw [b_noiseBy, Option.bind_some]
    dsimp only
    rw [b_bounded]
    rfl
theorem cw_queasy (h : zCoach a) (hE : zTxC E n (J.2 2) (J.2 3)) (ht : J.2 a 3 = nI t) (htn : t < n) : ∃ J1, F_X0_queasy a x m J = some (zQueasy E (zW a J) t x m, J1) ∧ zSame a J J1 := by
  unfold F_X0_queasy zQueasy
  rw [if_pos (co_kd h), cw_sits h, Option.bind_some]
  dsimp only
  by_cases hs : zSeat (zW a J) x = -1
  · rw [if_pos hs, if_pos (zOne0.2 (fun z => z hs))]
    exact ⟨J, rfl, zSame.rf⟩
  · rw [if_neg hs, if_neg (fun z => zOne0.1 z hs)]
    obtain ⟨J1, e1, s1⟩ := cw_telling (p := 1) (m := m) (x := x) h hE ht htn (by omega)
    have w1 := s1.w h
    have z1 := zW_eq w1 x
    have q1 : F_X0_telling a (1 : Int32) x m J = some (zTell E (zW a J) t 1 x m, J1) := e1
    have q2 : F_X0_seatOf a x J1 = some (zSeat (zW a J) x, J1) := (cw_seatOf h).trans (by rw [z1.1])
    have q3 : F_X0_kindOf a x J1 = some (zIt (zW a J 1) 8 x 0, J1) := (co_kindOf h).trans (by rw [← z1.2.2.2.2.2.2.1]; rfl)
    refine ⟨J1, ?_, s1⟩
    rw [q1, Option.bind_some]
    dsimp only
    rw [q3, Option.bind_some]
    dsimp only
    rw [q2, Option.bind_some]
    dsimp only
    rw [b_queasyBy, Option.bind_some]
    dsimp only
    rw [b_bounded]
    rfl
theorem cw_glad (h : zCoach a) (hE : zTxC E n (J.2 2) (J.2 3)) (ht : J.2 a 3 = nI t) (htn : t < n) : ∃ J1, F_X0_glad a x J = some (zGlad E (zW a J) t x, J1) ∧ zSame a J J1 := by
  unfold F_X0_glad zGlad
  rw [if_pos (co_kd h), cw_sits h, Option.bind_some]
  dsimp only
  by_cases hs : zSeat (zW a J) x = -1
  · rw [if_pos hs, if_pos (zOne0.2 (fun z => z hs))]
    exact ⟨J, rfl, zSame.rf⟩
  · rw [if_neg hs, if_neg (fun z => zOne0.1 z hs)]
    obtain ⟨J1, e1, s1⟩ := cw_telling (p := 2) (m := J.2 a 1) (x := x) h hE ht htn (by omega)
    have w1 := s1.w h
    have z1 := zW_eq w1 x
    have q1 : F_X0_telling a (2 : Int32) x (J.2 a 1) J = some (zTell E (zW a J) t 2 x (J.2 a 1), J1) := e1
    have q2 : F_X0_seatOf a x J1 = some (zSeat (zW a J) x, J1) := (cw_seatOf h).trans (by rw [z1.1])
    have q3 : F_X0_kindOf a x J1 = some (zIt (zW a J 1) 8 x 0, J1) := (co_kindOf h).trans (by rw [← z1.2.2.2.2.2.2.1]; rfl)
    have q4 : F_X0_friendOf a x J1 = some (zIt (zW a J 3) 8 x 0, J1) := (co_friendOf h).trans (by rw [← w1 3 (by omega)]; rfl)
    have q5 : F_X0_areBeside a x (zIt (zW a J 3) 8 x 0) J1 = some (zOne (zNxt (zW a J) x (zIt (zW a J 3) 8 x 0)), J1) := (cw_areBeside h).trans (by rw [z1.2.2.2.2.1])
    refine ⟨J1, ?_, s1⟩
    rw [q1, Option.bind_some]
    dsimp only
    rw [q3, Option.bind_some]
    dsimp only
    rw [q2, Option.bind_some]
    dsimp only
    rw [q4, Option.bind_some]
    dsimp only
    rw [q5, Option.bind_some]
    dsimp only
    rw [b_gladBy]
    rfl
end LO
