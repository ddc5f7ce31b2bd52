/-! what THE RULE tells of one, how loud, queasy, glad one is: the class -/
abbrev zEv2 : Type := Nat → Nat → (Nat → Int32) → Int32
def zFacts (w : zVw) (x m : Int32) : Nat → Int32 := fun k => match k with
  | 0 => zSeat w x / 4
  | 1 => zRem (zSeat w x) 4
  | 2 => m
  | 3 => zIt (w 2) 8 x 0
  | 4 => zBes w x
  | 5 => zOne (zNxt w x (zIt (w 3) 8 x 0))
  | _ => 0
/-- the TEXTS in the class's two rows are those that E tells of -/
def zTxC (E : zEv2) (n : Nat) (codes ends : Nat → Int32) : Prop :=
  (∀ (t p : Nat) (f g : Nat → Int32), (∀ k, k < 6 → f k = g k) → E t p f = E t p g) ∧
  ∀ (J : zzJ) (row t p : Nat), J.2 2 = codes → J.2 3 = ends → (row = 13 ∨ row = 20 ∨ row = 27) → t < n → p < 3 → ∃ J1 : zzJ, F_X5_value (nI t) (nI p) row J = some (E t p (J.2 row), J1) ∧ J1.1 = J.1 ∧ ∀ b, b ≠ 4 → J1.2 b = J.2 b
def zTell (E : zEv2) (w : zVw) (t p : Nat) (x m : Int32) : Int32 := zBnd (E t p (zFacts w x m)) (if p = 2 then -99 else 0) 99
/-- but for the scratch rows of a coach nothing has changed -/
def zSame (a : Nat) (J J1 : zzJ) : Prop := J1.1 = J.1 ∧ ∀ b, b ≠ 4 → b ≠ a + 6 → J1.2 b = J.2 b
theorem zSame.rf {a : Nat} {J : zzJ} : zSame a J J := ⟨rfl, fun _ _ _ => rfl⟩
theorem zSame.tr {a : Nat} {J J1 J2 : zzJ} (h1 : zSame a J J1) (h2 : zSame a J1 J2) : zSame a J J2 := ⟨h2.1.trans h1.1, fun b h4 h6 => (h2.2 b h4 h6).trans (h1.2 b h4 h6)⟩
/-- the same view -/
theorem zW_put {a : Nat} {J : zzJ} {k : Nat} {v : Int32} : ∀ i, i ≠ 6 → zW a (wI J (a + 6) k v) i = zW a J i := fun i hi => wI_ne (by omega)
theorem zW_eq {w w' : zVw} (h : ∀ i, i < 6 → w' i = w i) (x : Int32) : zSeat w' x = zSeat w x ∧ zBes w' x = zBes w x ∧ zIt (w' 2) 8 x 0 = zIt (w 2) 8 x 0 ∧ zIt (w' 3) 8 x 0 = zIt (w 3) 8 x 0 ∧ (∀ y, zOne (zNxt w' x y) = zOne (zNxt w x y)) ∧ zOne (zWat w' x) = zOne (zWat w x) ∧ zIt (w' 1) 8 x 0 = zIt (w 1) 8 x 0 ∧ ∀ m, zFacts w' x m = zFacts w x m := by
  have h0 := h 0 (by omega)
  have h1 := h 1 (by omega)
  have h2 := h 2 (by omega)
  have h3 := h 3 (by omega)
  have h4 := h 4 (by omega)
  have h5 := h 5 (by omega)
  have e1 : ∀ y, zSeat w' y = zSeat w y := fun y => by unfold zSeat; rw [h0, h4]
  have e2 : ∀ y, zSit w' y = zSit w y := fun y => by unfold zSit; rw [h5]
  have e3 : zNb1 w' x = zNb1 w x := by unfold zNb1; rw [e1, e2]
  have e4 : zNb2 w' x = zNb2 w x := by unfold zNb2; rw [e1, e2]
  have e5 : zBes w' x = zBes w x := by unfold zBes; rw [e3, e4]
  have e6 : ∀ y, zOne (zNxt w' x y) = zOne (zNxt w x y) := fun y => by unfold zNxt; rw [e1, e1]
  refine ⟨e1 x, e5, by rw [h2], by rw [h3], e6, ?_, by rw [h1], fun m => ?_⟩
  · unfold zWat zTch; rw [e3, e4, h0, h1]
  · funext k
    have e7 := e6 (zIt (w 3) 8 x 0)
    unfold zFacts
    simp only [e1, e5, h2, h3, e7]
section TE
variable {E : zEv2} {n a t p : Nat} {J : zzJ} {x m : Int32}
theorem b_putf (h : zCoach a) {k : Nat} {v : Int32} (hk : k < 6) {J : zzJ} : F_X6_put (a + 6) (nI k) v J = some (wI J (a + 6) k v) := by
  rw [b_put (co_8 h).2.2.2.2.2.1 (co_8 h).2.2.2.2.2.2 (by omega), if_pos (by rw [i_nI (by omega)]; omega), i_nI (by omega)]
  rfl
theorem cw_telling (h : zCoach a) (hE : zTxC E n (J.2 2) (J.2 3)) (ht : J.2 a 3 = nI t) (htn : t < n) (hp : p < 3) : ∃ J1, F_X0_telling a (nI p) x m J = some (zTell E (zW a J) t p x m, J1) ∧ zSame a J J1 := by
  have c10 := (co_r h).2.2.2.2.2.2
  have hk : ∀ {J' : zzJ} {k : Nat} {v : Int32}, (∀ i, i < 6 → zW a J' i = zW a J i) → ∀ i, i < 6 → zW a (wI J' (a + 6) k v) i = zW a J i := fun h1 i hi => (zW_put i (by omega)).trans (h1 i hi)
  have w0 : ∀ i, i < 6 → zW a J i = zW a J i := fun _ _ => rfl
  let J1 := wI J (a + 6) 0 (zSeat (zW a J) x / 4)
  let J2 := wI J1 (a + 6) 1 (zRem (zSeat (zW a J) x) 4)
  let J3 := wI J2 (a + 6) 2 m
  let J4 := wI J3 (a + 6) 3 (zIt (zW a J 2) 8 x 0)
  let J5 := wI J4 (a + 6) 4 (zBes (zW a J) x)
  let J6 := wI J5 (a + 6) 5 (zOne (zNxt (zW a J) x (zIt (zW a J 3) 8 x 0)))
  have w1 : ∀ i, i < 6 → zW a J1 i = zW a J i := hk w0
  have w2 : ∀ i, i < 6 → zW a J2 i = zW a J i := hk w1
  have w3 : ∀ i, i < 6 → zW a J3 i = zW a J i := hk w2
  have w4 : ∀ i, i < 6 → zW a J4 i = zW a J i := hk w3
  have w5 : ∀ i, i < 6 → zW a J5 i = zW a J i := hk w4
  have s6 : ∀ b, b ≠ a + 6 → J6.2 b = J.2 b := fun b hb => by
    show (wI J5 _ _ _).2 b = _
    rw [wI_ne hb]
    show (wI J4 _ _ _).2 b = _
    rw [wI_ne hb]
    show (wI J3 _ _ _).2 b = _
    rw [wI_ne hb]
    show (wI J2 _ _ _).2 b = _
    rw [wI_ne hb]
    show (wI J1 _ _ _).2 b = _
    rw [wI_ne hb]
    exact wI_ne hb
  have hrow : a + 6 = 13 ∨ a + 6 = 20 ∨ a + 6 = 27 := by rcases h with rfl | rfl | rfl <;> simp
  have hf : ∀ k, k < 6 → J6.2 (a + 6) k = zFacts (zW a J) x m k := by
    intro k hk
    show (wI (wI (wI (wI (wI (wI J _ _ _) _ _ _) _ _ _) _ _ _) _ _ _) _ _ _).2 _ k = _
    simp only [wI_get, true_and]
    rcases (show k = 0 ∨ k = 1 ∨ k = 2 ∨ k = 3 ∨ k = 4 ∨ k = 5 by omega) with rfl | rfl | rfl | rfl | rfl | rfl <;> rfl
  obtain ⟨J7, g1, g2, g3⟩ := hE.2 J6 (a + 6) t p (s6 2 (by omega)) (s6 3 (by omega)) hrow htn hp
  rw [hE.1 t p _ _ hf] at g1
  have hlast : ∀ fr : Int32, fr = zOne (zNxt (zW a J) x (zIt (zW a J 3) 8 x 0)) → F_X0_telling_89 a (nI p) fr 5 (a + 6) J5 = some (zTell E (zW a J) t p x m, J7) := by
    intro fr hfr
    unfold F_X0_telling_89
    have e5 : F_X6_put (a + 6) 5 fr J5 = some J6 := by rw [hfr]; exact b_putf h (k := 5) (by omega)
    rw [e5, Option.bind_some, if_pos (co_kd h), if_pos (co_r h).1, c10, Option.bind_some, s6 a (by omega), ht, g1, Option.bind_some]
    unfold zTell
    rcases (show p = 0 ∨ p = 1 ∨ p = 2 by omega) with rfl | rfl | rfl
    · rw [if_neg (by decide), b_bounded, Option.bind_some]; rfl
    · rw [if_neg (by decide), b_bounded, Option.bind_some]; rfl
    · rw [if_pos (by decide), b_bounded, Option.bind_some]; rfl
  refine ⟨J7, ?_, g2, fun b h4 h6 => (g3 b h4).trans (s6 b h6)⟩
  unfold F_X0_telling
  rw [if_pos (co_kd h), cw_seatOf h, Option.bind_some, c10, Option.bind_some]
  have e1 : F_X6_put (a + 6) 0 (zSeat (zW a J) x / 4) J = some J1 := b_putf h (k := 0) (by omega)
  have e2 : F_X6_put (a + 6) 1 (zRem (zSeat (zW a J) x) 4) J1 = some J2 := b_putf h (k := 1) (by omega)
  have e3 : F_X6_put (a + 6) 2 m J2 = some J3 := b_putf h (k := 2) (by omega)
  have q3 : F_X0_numberOf a x J3 = some (zIt (zW a J 2) 8 x 0, J3) := (co_numberOf h).trans (by rw [← w3 2 (by omega)]; rfl)
  have e4 : F_X6_put (a + 6) 3 (zIt (zW a J 2) 8 x 0) J3 = some J4 := b_putf h (k := 3) (by omega)
  have q4 : F_X0_neighbours a x J4 = some (zBes (zW a J) x, J4) := (cw_neighbours h).trans (by rw [(zW_eq w4 x).2.1])
  have e5 : F_X6_put (a + 6) 4 (zBes (zW a J) x) J4 = some J5 := b_putf h (k := 4) (by omega)
  have q5 : F_X0_friendOf a x J5 = some (zIt (zW a J 3) 8 x 0, J5) := (co_friendOf h).trans (by rw [← w5 3 (by omega)]; rfl)
  have q6 : F_X0_areBeside a x (zIt (zW a J 3) 8 x 0) J5 = some (zOne (zNxt (zW a J) x (zIt (zW a J 3) 8 x 0)), J5) := (cw_areBeside h).trans (by rw [(zW_eq w5 x).2.2.2.2.1])
  dsimp only
  rw [e1, Option.bind_some, e2, Option.bind_some, e3, Option.bind_some, q3, Option.bind_some]
  dsimp only
  rw [e4, Option.bind_some, q4, Option.bind_some]
  dsimp only
  rw [e5, Option.bind_some, q5, Option.bind_some]
  dsimp only
  rw [q6, Option.bind_some]
  dsimp only
  by_cases hn : zNxt (zW a J) x (zIt (zW a J 3) 8 x 0)
  · rw [if_neg (by rw [zOne0]; exact fun z => z hn)]
    exact hlast 1 (by unfold zOne; rw [if_pos hn])
  · rw [if_pos (by rw [zOne0]; exact hn)]
    exact hlast 0 (by unfold zOne; rw [if_neg hn])
end TE
