/-! a move to a seat that is free, or one's own, keeps a view good -/
theorem good_mv {w w' : zVw} {s i : Nat} {q : Int32} (g : zGoodV w s) (hi : i < s) (hq : q = -1 ∨ ∃ k, k < 24 ∧ q = nI k ∧ (w 5 k = -1 ∨ w 5 k = nI i)) (e0 : ∀ r, r < 4 → w' r = w r) (e4 : ∀ j, w' 4 j = if j = i then q else w 4 j) (e5 : ∀ j, j < 24 → w' 5 j = if nI j = q then nI i else if nI j = w 4 i then -1 else w 5 j) : zGoodV w' s := by
  have h8 := g.1
  refine ⟨g.1, by rw [e0 0 (by omega)]; exact g.2.1, fun j hj => ?_, fun k hk => ?_⟩
  · have gj := g.2.2.1 j hj
    rw [e0 1 (by omega), e0 2 (by omega), e0 3 (by omega), e4]
    refine ⟨gj.1, gj.2.1, gj.2.2.1, ?_⟩
    by_cases hji : j = i
    · rw [if_pos hji]
      rcases hq with h | ⟨k, hk, h, _⟩
      · exact Or.inl h
      · exact Or.inr ⟨k, hk, h, by rw [e5 k hk, if_pos h.symm, hji]⟩
    · rw [if_neg hji]
      rcases gj.2.2.2 with h | ⟨k, hk, h, h5⟩
      · exact Or.inl h
      · refine Or.inr ⟨k, hk, h, ?_⟩
        rw [e5 k hk, if_neg, if_neg, h5]
        · intro z
          rcases (g.2.2.1 i hi).2.2.2 with y | ⟨k2, hk2, y, y5⟩
          · exact i_nm1 (by omega) (z.trans y)
          · have e := i_inj (by omega) (by omega) (z.trans y)
            subst e
            exact hji (i_inj (by omega) (by omega) (h5.symm.trans y5))
        · intro z
          rcases hq with y | ⟨k2, hk2, y, y5⟩
          · exact i_nm1 (by omega) (z.trans y)
          · have e := i_inj (by omega) (by omega) (z.trans y)
            subst e
            rcases y5 with y5 | y5
            · exact i_nm1 (by omega) (h5.symm.trans y5)
            · exact hji (i_inj (by omega) (by omega) (h5.symm.trans y5))
  · rw [e5 k hk]
    by_cases hkq : nI k = q
    · rw [if_pos hkq]
      exact Or.inr ⟨i, hi, rfl, by rw [e4, if_pos rfl, hkq]⟩
    · rw [if_neg hkq]
      by_cases hk4 : nI k = w 4 i
      · rw [if_pos hk4]
        exact Or.inl rfl
      · rw [if_neg hk4]
        rcases g.2.2.2 k hk with h | ⟨j, hj, h, h4⟩
        · exact Or.inl h
        · refine Or.inr ⟨j, hj, h, ?_⟩
          rw [e4, if_neg (fun z => hk4 (by rw [← z]; exact h4.symm)), h4]
