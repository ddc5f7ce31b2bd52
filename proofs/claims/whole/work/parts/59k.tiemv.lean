/-! a move on both sides keeps the tie -/
theorem tie_mv {w w' : zVw} {s i : Nat} {q : Int32} {J J1 : zzJ} (ti : zTieV J w s) (hi : i < s) (e0 : ∀ r, r < 4 → w' r = w r) (e4 : ∀ j, w' 4 j = if j = i then q else w 4 j) (e5 : ∀ j, j < 24 → w' 5 j = if nI j = q then nI i else if nI j = w 4 i then -1 else w 5 j) (f0 : ∀ b, b ≠ 53 → b ≠ 54 → J1.2 b = J.2 b) (f3 : ∀ j, J1.2 53 j = if j = i then q else J.2 53 j) (f4 : ∀ j, j < 24 → J1.2 54 j = if nI j = q then nI i else if nI j = w 4 i then -1 else J.2 54 j) : zTieV J1 w' s := by
  refine ⟨fun j hj => ?_, fun k hk => ?_, ?_, ?_, ?_, ?_⟩
  · have t := ti.1 j hj
    rw [f0 50 (by omega) (by omega), f0 51 (by omega) (by omega), f0 52 (by omega) (by omega), e0 1 (by omega), e0 2 (by omega), e0 3 (by omega), f3, e4, t.2.2.2]
    exact ⟨t.1, t.2.1, t.2.2.1, rfl⟩
  · rw [f4 k hk, e5 k hk, ti.2.1 k hk]
  · rw [f0 46 (by omega) (by omega), e0 0 (by omega)]
    exact ti.2.2.1
  · rw [f0 46 (by omega) (by omega), e0 0 (by omega)]
    exact ti.2.2.2.1
  · rw [f0 46 (by omega) (by omega), e0 0 (by omega)]
    exact ti.2.2.2.2.1
  · rw [f0 46 (by omega) (by omega), e0 0 (by omega)]
    exact ti.2.2.2.2.2
