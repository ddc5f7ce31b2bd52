/-! din and joy of the reference -/
section RS
variable {E : zEv2} {n t s : Nat} {w : zVw}
theorem zLow.tx {J J1 : zzJ} (h : zLow J J1) (hE : zTxR E n (J.2 47) (J.2 48)) : zTxR E n (J1.2 47) (J1.2 48) := by
  rw [h.1 47 (by omega), h.1 48 (by omega)]
  exact hE
theorem r_din_4 (g : zGoodV w s) (ht : w 0 3 = nI t) (htn : t < n) : ∀ (k i f : Nat) (l : Int32) (J : zzJ), zTieV J w s → zTxR E n (J.2 47) (J.2 48) → s = i + k → k < f → ∃ J1, F_X7_din_4 f l (nI i) J = some (zAcc (zNoise E w t) l i k, J1) ∧ zLow J J1 := by
  have h8 := g.1
  intro k
  induction k with
  | zero =>
    intro i f l J ti hE hk hf
    obtain ⟨f, rfl⟩ : ∃ f', f = f' + 1 := ⟨f - 1, by omega⟩
    refine ⟨J, ?_, zLow.rf⟩
    rw [F_X7_din_4, if_neg]
    · rfl
    · rw [ti.2.2.2.2.2, g.2.1, i_lt, i_nI (by omega), i_nI (by omega)]
      omega
  | succ k ih =>
    intro i f l J ti hE hk hf
    obtain ⟨f, rfl⟩ : ∃ f', f = f' + 1 := ⟨f - 1, by omega⟩
    obtain ⟨J1, e1, l1⟩ := r_noise g ti (i := i) (by omega) hE ht htn
    obtain ⟨J2, e2, l2⟩ := ih (i + 1) f (l + zNoise E w t (nI i)) J1 (l1.tie ti) (l1.tx hE) (by omega) (by omega)
    refine ⟨J2, ?_, l1.tr l2⟩
    rw [F_X7_din_4, if_pos (by rw [ti.2.2.2.2.2, g.2.1, i_lt, i_nI (by omega), i_nI (by omega)]; omega), e1, Option.bind_some]
    dsimp only
    rw [← nI_succ, e2]
    rfl
theorem r_din (g : zGoodV w s) {J : zzJ} (ti : zTieV J w s) (hE : zTxR E n (J.2 47) (J.2 48)) (ht : w 0 3 = nI t) (htn : t < n) : ∃ J1, F_X7_din J = some (zAcc (zNoise E w t) 0 0 s, J1) ∧ zLow J J1 := r_din_4 g ht htn s 0 4096 0 J ti hE (by omega) (by have := g.1; omega)
theorem r_joy_4 (g : zGoodV w s) (ht : w 0 3 = nI t) (htn : t < n) : ∀ (k i f : Nat) (l : Int32) (J : zzJ), zTieV J w s → zTxR E n (J.2 47) (J.2 48) → s = i + k → k < f → ∃ J1, F_X7_joy_4 f l (nI i) J = some (zAcc (zGlad E w t) l i k, J1) ∧ zLow J J1 := by
  have h8 := g.1
  intro k
  induction k with
  | zero =>
    intro i f l J ti hE hk hf
    obtain ⟨f, rfl⟩ : ∃ f', f = f' + 1 := ⟨f - 1, by omega⟩
    refine ⟨J, ?_, zLow.rf⟩
    rw [F_X7_joy_4, if_neg]
    · rfl
    · rw [ti.2.2.2.2.2, g.2.1, i_lt, i_nI (by omega), i_nI (by omega)]
      omega
  | succ k ih =>
    intro i f l J ti hE hk hf
    obtain ⟨f, rfl⟩ : ∃ f', f = f' + 1 := ⟨f - 1, by omega⟩
    obtain ⟨J1, e1, l1⟩ := r_glad g ti (i := i) (by omega) hE ht htn
    obtain ⟨J2, e2, l2⟩ := ih (i + 1) f (l + zGlad E w t (nI i)) J1 (l1.tie ti) (l1.tx hE) (by omega) (by omega)
    refine ⟨J2, ?_, l1.tr l2⟩
    rw [F_X7_joy_4, if_pos (by rw [ti.2.2.2.2.2, g.2.1, i_lt, i_nI (by omega), i_nI (by omega)]; omega), e1, Option.bind_some]
    dsimp only
    rw [← nI_succ, e2]
    rfl
theorem r_joy (g : zGoodV w s) {J : zzJ} (ti : zTieV J w s) (hE : zTxR E n (J.2 47) (J.2 48)) (ht : w 0 3 = nI t) (htn : t < n) : ∃ J1, F_X7_joy J = some (zAcc (zGlad E w t) 0 0 s, J1) ∧ zLow J J1 := r_joy_4 g ht htn s 0 4096 0 J ti hE (by omega) (by have := g.1; omega)
end RS
