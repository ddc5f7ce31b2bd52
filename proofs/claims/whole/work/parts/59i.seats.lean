/-! one of the reference moves to a seat -/
section SE
variable {w : zVw} {s i : Nat} {J : zzJ} {q : Int32}
theorem r_seats (g : zGoodV w s) (ti : zTieV J w s) (hi : i < s) (hq : q = -1 ∨ ∃ k, k < 24 ∧ q = nI k) : ∃ J1, F_X7_seats (nI i) q J = some J1 ∧ J1.1 = J.1 ∧ (∀ b, b ≠ 53 → b ≠ 54 → J1.2 b = J.2 b) ∧ (∀ j, J1.2 53 j = if j = i then q else J.2 53 j) ∧ ∀ j, j < 24 → J1.2 54 j = if nI j = q then nI i else if nI j = w 4 i then -1 else J.2 54 j := by
  have h8 := g.1
  have hx : zzIx (nI i) 8 := i_ix (by omega) (by omega)
  have hc : (nI i).toNatClampNeg = i := i_cm (by omega)
  have q4 := (ti.1 i hi).2.2.2
  have two : ∀ J2 : zzJ, ∃ J1, F_X7_seats_22 (nI i) q J2 = some J1 ∧ J1.1 = J2.1 ∧ (∀ b, b ≠ 53 → b ≠ 54 → J1.2 b = J2.2 b) ∧ (∀ j, J1.2 53 j = if j = i then q else J2.2 53 j) ∧ ∀ j, j < 24 → J1.2 54 j = if nI j = q then nI i else J2.2 54 j := by
    intro J2
    unfold F_X7_seats_22
    rw [if_pos hx, hc]
    have c53 : ∀ j, (wI J2 53 i q).2 53 j = if j = i then q else J2.2 53 j := fun j => by
      rw [wI_get]
      by_cases hj : j = i
      · rw [if_pos ⟨rfl, hj⟩, if_pos hj]
      · rw [if_neg (fun z => hj z.2), if_neg hj]
    rcases hq with rfl | ⟨k, hk, rfl⟩
    · rw [if_pos rfl]
      exact ⟨_, rfl, rfl, fun b h3 _ => wI_ne h3, c53, fun j hj => by rw [if_neg (i_nm1 (by omega)), wI_ne (by omega)]⟩
    · rw [if_neg (i_nm1 (by omega)), if_pos (i_ix hk (by omega)), i_cm (by omega)]
      refine ⟨_, rfl, rfl, fun b h3 h4 => (wI_ne h4).trans (wI_ne h3), fun j => by rw [wI_ne (by omega)]; exact c53 j, fun j hj => ?_⟩
      rw [wI_get, wI_ne (by omega)]
      by_cases hjk : j = k
      · subst hjk
        rw [if_pos ⟨rfl, rfl⟩, if_pos rfl]
      · rw [if_neg (fun z => hjk z.2), if_neg (fun z => hjk (i_inj (by omega) (by omega) z))]
  unfold F_X7_seats
  rw [if_pos hx]
  simp only [hc, q4]
  rcases (g.2.2.1 i hi).2.2.2 with h4 | ⟨k, hk, h4, _⟩
  · obtain ⟨J1, e1, a1, b1, c1, d1⟩ := two J
    rw [if_pos h4]
    refine ⟨J1, e1, a1, b1, c1, fun j hj => ?_⟩
    rw [d1 j hj, h4, if_neg (show ¬ nI j = -1 from i_nm1 (by omega))]
  · rw [if_neg (by rw [h4]; exact i_nm1 (by omega)), if_pos hx, if_pos (by rw [h4]; exact i_ix hk (by omega))]
    obtain ⟨J1, e1, a1, b1, c1, d1⟩ := two (wI J 54 (w 4 i).toNatClampNeg (-1))
    refine ⟨J1, e1, a1, fun b h3 h5 => (b1 b h3 h5).trans (wI_ne h5), fun j => by rw [c1, wI_ne (by omega)], fun j hj => ?_⟩
    have e : (wI J 54 k (-1)).2 54 j = if nI j = nI k then -1 else J.2 54 j := by
      rw [wI_get]
      by_cases hjk : j = k
      · subst hjk
        rw [if_pos ⟨rfl, rfl⟩, if_pos rfl]
      · rw [if_neg (fun z => hjk z.2), if_neg (fun z => hjk (i_inj (by omega) (by omega) z))]
    rw [d1 j hj, h4, i_cm (by omega), e]
end SE
