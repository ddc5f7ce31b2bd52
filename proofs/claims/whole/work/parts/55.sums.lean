/-! sums over all ones of a coach: the class -/
def zAcc (f : Int32 → Int32) : Int32 → Nat → Nat → Int32
  | l, _, 0 => l
  | l, i, k + 1 => zAcc f (l + f (nI i)) (i + 1) k
theorem zAcc_eq {f g : Int32 → Int32} : ∀ (k i : Nat) (l : Int32), (∀ j, i ≤ j → j < i + k → f (nI j) = g (nI j)) → zAcc f l i k = zAcc g l i k := by
  intro k
  induction k with
  | zero => intro i l _; rfl
  | succ k ih =>
    intro i l h
    show zAcc f (l + f (nI i)) (i + 1) k = zAcc g (l + g (nI i)) (i + 1) k
    rw [h i (by omega) (by omega)]
    exact ih (i + 1) _ (fun j h1 h2 => h j (by omega) (by omega))
theorem zTell_eq {E : zEv2} {w w' : zVw} {n : Nat} {c e : Nat → Int32} (hE : zTxC E n c e) (h : ∀ i, i < 6 → w' i = w i) (t p : Nat) (x m : Int32) : zTell E w' t p x m = zTell E w t p x m := by
  unfold zTell
  rw [show zFacts w' x m = zFacts w x m from (zW_eq h x).2.2.2.2.2.2.2 m]
theorem zNoise_eq {E : zEv2} {w w' : zVw} {n : Nat} {c e : Nat → Int32} (hE : zTxC E n c e) (h : ∀ i, i < 6 → w' i = w i) (t : Nat) (x : Int32) : zNoise E w' t x = zNoise E w t x := by
  have z := zW_eq h x
  unfold zNoise
  rw [zTell_eq hE h, z.1, z.2.2.1, z.2.2.2.2.2.1, z.2.2.2.2.2.2.1, h 0 (by omega)]
theorem zQueasy_eq {E : zEv2} {w w' : zVw} {n : Nat} {c e : Nat → Int32} (hE : zTxC E n c e) (h : ∀ i, i < 6 → w' i = w i) (t : Nat) (x m : Int32) : zQueasy E w' t x m = zQueasy E w t x m := by
  have z := zW_eq h x
  unfold zQueasy
  rw [zTell_eq hE h, z.1, z.2.2.2.2.2.2.1]
theorem zGlad_eq {E : zEv2} {w w' : zVw} {n : Nat} {c e : Nat → Int32} (hE : zTxC E n c e) (h : ∀ i, i < 6 → w' i = w i) (t : Nat) (x : Int32) : zGlad E w' t x = zGlad E w t x := by
  have z := zW_eq h x
  unfold zGlad
  have z5 := z.2.2.2.2.1 (zIt (w 3) 8 x 0)
  simp only [zTell_eq hE h, z.1, z.2.2.2.1, z5, z.2.2.2.2.2.2.1, h 0 (by omega)]
theorem zSame.tx {E : zEv2} {n a : Nat} {J J1 : zzJ} (hs : zSame a J J1) (h : zCoach a) (hE : zTxC E n (J.2 2) (J.2 3)) : zTxC E n (J1.2 2) (J1.2 3) := by
  rw [hs.2 2 (by omega) (by rcases h with h | h | h <;> omega), hs.2 3 (by omega) (by rcases h with h | h | h <;> omega)]
  exact hE
theorem zSame.ht {a t : Nat} {J J1 : zzJ} {k : Nat} (hs : zSame a J J1) (h : zCoach a) (ht : J.2 a k = nI t) : J1.2 a k = nI t := by
  rw [hs.2 a (by rcases h with h | h | h <;> omega) (by omega)]
  exact ht
section SU
variable {E : zEv2} {n a t s : Nat}
theorem cw_din_4 (h : zCoach a) (htn : t < n) (hs : s < 4000) : ∀ (k i f : Nat) (l : Int32) (J : zzJ), zTxC E n (J.2 2) (J.2 3) → J.2 a 3 = nI t → J.2 a 4 = nI s → s = i + k → k < f → ∃ J1, F_X0_din_4 f a l (nI i) J = some (zAcc (zNoise E (zW a J) t) l i k, J1) ∧ zSame a J J1 := by
  intro k
  induction k with
  | zero =>
    intro i f l J hE ht h4 hk hf
    obtain ⟨f, rfl⟩ : ∃ f', f = f' + 1 := ⟨f - 1, by omega⟩
    refine ⟨J, ?_, zSame.rf⟩
    rw [F_X0_din_4, if_pos (co_kd h), if_neg]
    · rfl
    · rw [h4, i_lt, i_nI (by omega), i_nI (by omega)]
      omega
  | succ k ih =>
    intro i f l J hE ht h4 hk hf
    obtain ⟨f, rfl⟩ : ∃ f', f = f' + 1 := ⟨f - 1, by omega⟩
    obtain ⟨J1, e1, s1⟩ := cw_noise (x := nI i) h hE ht htn
    obtain ⟨J2, e2, s2⟩ := ih (i + 1) f (l + zNoise E (zW a J) t (nI i)) J1 (s1.tx h hE) (s1.ht h ht) (s1.ht h h4) (by omega) (by omega)
    refine ⟨J2, ?_, s1.tr s2⟩
    rw [F_X0_din_4, if_pos (co_kd h), if_pos (by rw [h4, i_lt, i_nI (by omega), i_nI (by omega)]; omega), e1, Option.bind_some]
    dsimp only
    rw [← nI_succ, e2]
    congr 2
    exact zAcc_eq k (i + 1) _ (fun j _ _ => zNoise_eq hE (s1.w h) t (nI j))
theorem cw_din (h : zCoach a) (htn : t < n) (hs : s < 4000) {J : zzJ} (hE : zTxC E n (J.2 2) (J.2 3)) (ht : J.2 a 3 = nI t) (h4 : J.2 a 4 = nI s) : ∃ J1, F_X0_din a J = some (zAcc (zNoise E (zW a J) t) 0 0 s, J1) ∧ zSame a J J1 := cw_din_4 h htn hs s 0 4096 0 J hE ht h4 (by omega) (by omega)
theorem cw_joy_4 (h : zCoach a) (htn : t < n) (hs : s < 4000) : ∀ (k i f : Nat) (l : Int32) (J : zzJ), zTxC E n (J.2 2) (J.2 3) → J.2 a 3 = nI t → J.2 a 4 = nI s → s = i + k → k < f → ∃ J1, F_X0_joy_4 f a l (nI i) J = some (zAcc (zGlad E (zW a J) t) l i k, J1) ∧ zSame a J J1 := by
  intro k
  induction k with
  | zero =>
    intro i f l J hE ht h4 hk hf
    obtain ⟨f, rfl⟩ : ∃ f', f = f' + 1 := ⟨f - 1, by omega⟩
    refine ⟨J, ?_, zSame.rf⟩
    rw [F_X0_joy_4, if_pos (co_kd h), if_neg]
    · rfl
    · rw [h4, i_lt, i_nI (by omega), i_nI (by omega)]
      omega
  | succ k ih =>
    intro i f l J hE ht h4 hk hf
    obtain ⟨f, rfl⟩ : ∃ f', f = f' + 1 := ⟨f - 1, by omega⟩
    obtain ⟨J1, e1, s1⟩ := cw_glad (x := nI i) h hE ht htn
    obtain ⟨J2, e2, s2⟩ := ih (i + 1) f (l + zGlad E (zW a J) t (nI i)) J1 (s1.tx h hE) (s1.ht h ht) (s1.ht h h4) (by omega) (by omega)
    refine ⟨J2, ?_, s1.tr s2⟩
    rw [F_X0_joy_4, if_pos (co_kd h), if_pos (by rw [h4, i_lt, i_nI (by omega), i_nI (by omega)]; omega), e1, Option.bind_some]
    dsimp only
    rw [← nI_succ, e2]
    congr 2
    exact zAcc_eq k (i + 1) _ (fun j _ _ => zGlad_eq hE (s1.w h) t (nI j))
theorem cw_joy (h : zCoach a) (htn : t < n) (hs : s < 4000) {J : zzJ} (hE : zTxC E n (J.2 2) (J.2 3)) (ht : J.2 a 3 = nI t) (h4 : J.2 a 4 = nI s) : ∃ J1, F_X0_joy a J = some (zAcc (zGlad E (zW a J) t) 0 0 s, J1) ∧ zSame a J J1 := cw_joy_4 h htn hs s 0 4096 0 J hE ht h4 (by omega) (by omega)
theorem cw_sitting_4 (h : zCoach a) (hs : s < 4000) : ∀ (k i f : Nat) (l : Int32) (J : zzJ), J.2 a 4 = nI s → s = i + k → k < f → F_X0_sitting_4 f a l (nI i) J = some (zAcc (fun x => zOne (¬ zSeat (zW a J) x = -1)) l i k, J) := by
  intro k
  induction k with
  | zero =>
    intro i f l J h4 hk hf
    obtain ⟨f, rfl⟩ : ∃ f', f = f' + 1 := ⟨f - 1, by omega⟩
    rw [F_X0_sitting_4, if_pos (co_kd h), if_neg]
    · rfl
    · rw [h4, i_lt, i_nI (by omega), i_nI (by omega)]
      omega
  | succ k ih =>
    intro i f l J h4 hk hf
    obtain ⟨f, rfl⟩ : ∃ f', f = f' + 1 := ⟨f - 1, by omega⟩
    rw [F_X0_sitting_4, if_pos (co_kd h), if_pos (by rw [h4, i_lt, i_nI (by omega), i_nI (by omega)]; omega), cw_sits h, Option.bind_some]
    dsimp only
    rw [← nI_succ]
    by_cases hx : zSeat (zW a J) (nI i) = -1
    · rw [if_pos (zOne0.2 (fun z => z hx)), ih (i + 1) f _ J h4 (by omega) (by omega)]
      show _ = some (zAcc _ (l + zOne _) (i + 1) k, J)
      rw [show zOne (¬ zSeat (zW a J) (nI i) = -1) = 0 from zOne0.2 (fun z => z hx)]
    · rw [if_neg (fun z => zOne0.1 z hx), ih (i + 1) f _ J h4 (by omega) (by omega)]
      show _ = some (zAcc _ (l + zOne _) (i + 1) k, J)
      rw [show zOne (¬ zSeat (zW a J) (nI i) = -1) = 1 from if_pos hx]
theorem cw_sitting (h : zCoach a) (hs : s < 4000) {J : zzJ} (h4 : J.2 a 4 = nI s) : F_X0_sitting a J = some (zAcc (fun x => zOne (¬ zSeat (zW a J) x = -1)) 0 0 s, J) := cw_sitting_4 h hs s 0 4096 0 J h4 (by omega) (by omega)
end SU
