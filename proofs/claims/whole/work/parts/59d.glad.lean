/-! how queasy, how glad the reference's one is -/
section GL
variable {E : zEv2} {n t s i : Nat} {J : zzJ} {w : zVw} {m : Int32}
theorem r_queasy (g : zGoodV w s) (ti : zTieV J w s) (h : i < s) (hE : zTxR E n (J.2 47) (J.2 48)) (ht : w 0 3 = nI t) (htn : t < n) : ∃ J1, F_X7_queasyOf (nI i) m J = some (zQueasy E w t (nI i) m, J1) ∧ zLow J J1 := by
  have h8 := g.1
  have hx : zzIx (nI i) 8 := i_ix (by omega) (by omega)
  have hc : (nI i).toNatClampNeg = i := i_cm (by omega)
  have hs := zSeat_nI g h
  have i1 : zIt (w 1) 8 (nI i) 0 = w 1 i := zIt_nI (by omega) (by omega)
  have q := ti.1 i h
  unfold zQueasy F_X7_queasyOf
  rw [if_pos hx, if_pos hx]
  simp only [hc, q.1, q.2.2.2, i1, hs]
  by_cases hw : w 4 i = -1
  · rw [if_pos hw, if_pos hw]
    exact ⟨J, rfl, zLow.rf⟩
  · rw [if_neg hw, if_neg hw]
    by_cases h5 : w 1 i = 5
    · rw [if_pos h5, h5]
      exact ⟨J, rfl, zLow.rf⟩
    · obtain ⟨J1, e1, l1⟩ := r_asks (p := 1) (m := m) g ti h hE ht htn (by omega)
      have e2 : F_X7_asks 1 (nI i) m J = some (zTell E w t 1 (nI i) m, J1) := e1
      refine ⟨J1, ?_, l1⟩
      rw [if_neg h5, if_pos hx, e2, Option.bind_some]
      dsimp only
      unfold F_X7_queasyOf_90 zQy
      simp only [r_within, Option.bind_some, if_neg h5]
      by_cases k2 : w 1 i = 2
      · simp only [if_pos k2]
      · simp only [if_neg k2]
        by_cases k4 : w 1 i = 4
        · have k3 : ¬ w 1 i = 3 := by rw [k4]; decide
          simp only [if_pos k4, if_neg k3]
        · simp only [if_neg k4]
          by_cases k3 : w 1 i = 3
          · simp only [if_pos k3]
            by_cases hr : w 4 i / 4 = 5
            · simp only [if_pos hr]
            · simp only [if_neg hr]
          · simp only [if_neg k3]
theorem r_glad (g : zGoodV w s) (ti : zTieV J w s) (h : i < s) (hE : zTxR E n (J.2 47) (J.2 48)) (ht : w 0 3 = nI t) (htn : t < n) : ∃ J1, F_X7_gladOf (nI i) J = some (zGlad E w t (nI i), J1) ∧ zLow J J1 := by
  have h8 := g.1
  have hx : zzIx (nI i) 8 := i_ix (by omega) (by omega)
  have hc : (nI i).toNatClampNeg = i := i_cm (by omega)
  have hs := zSeat_nI g h
  have i1 : zIt (w 1) 8 (nI i) 0 = w 1 i := zIt_nI (by omega) (by omega)
  have i3 : zIt (w 3) 8 (nI i) 0 = w 3 i := zIt_nI (by omega) (by omega)
  have q := ti.1 i h
  unfold zGlad F_X7_gladOf
  rw [if_pos hx, if_pos hx]
  simp only [hc, q.1, q.2.2.2, i1, hs, i3]
  by_cases hw : w 4 i = -1
  · rw [if_pos hw, if_pos hw]
    exact ⟨J, rfl, zLow.rf⟩
  · rw [if_neg hw, if_neg hw]
    by_cases k4 : w 1 i = 4
    · rw [if_pos k4, k4]
      exact ⟨J, rfl, zLow.rf⟩
    · obtain ⟨J1, e1, l1⟩ := r_asks (p := 2) (m := J.2 46 7) g ti h hE ht htn (by omega)
      have e2 : F_X7_asks 2 (nI i) (J.2 46 7) J = some (zTell E w t 2 (nI i) (J.2 46 7), J1) := e1
      refine ⟨J1, ?_, l1⟩
      rw [if_neg k4, if_pos hx, e2, Option.bind_some]
      dsimp only
      rw [r_friend g (l1.tie ti) h, Option.bind_some]
      dsimp only
      rw [ti.2.2.1]
      generalize zTell E w t 2 (nI i) (w 0 1) = e
      have c51 : ∀ {c : Int32}, c = 5 → ¬ c = 1 ∧ ¬ c = 2 ∧ ¬ c = 3 := fun hc => by subst hc; decide
      have c32 : ∀ {c : Int32}, c = 3 → ¬ c = 2 := fun hc => by subst hc; decide
      unfold F_X7_gladOf_65 F_X7_gladOf_81 zGd
      simp only [zsp, if_neg k4]
      by_cases hb : zOne (zNxt w (nI i) (w 3 i)) = 0 <;> by_cases hr : w 4 i / 4 = 5
      all_goals simp only [hb, hr, if_true, if_false]
      all_goals
        by_cases k5 : w 1 i = 5
        · simp only [if_pos k5, if_neg (c51 k5).1, if_neg (c51 k5).2.1, if_neg (c51 k5).2.2]
        · simp only [if_neg k5]
          by_cases k1 : w 1 i = 1
          · simp only [if_pos k1]
          · simp only [if_neg k1]
            by_cases k3 : w 1 i = 3
            · simp only [if_pos k3, if_neg (c32 k3)]
            · simp only [if_neg k3]
end GL
