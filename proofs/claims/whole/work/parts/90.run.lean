/-! what is left to show: the law's loop, for every script -/
theorem zz_loop (L : Nat) (xs : Nat → Int32) (hL : L ≤ 3072) : ∃ Jf : zzJ, F_L_law_18 4096 0 (zzJ0 L xs) = some (1, Jf) := by
  sorry
theorem zz_run (L : Nat) (xs : Nat → Int32) (hL : L ≤ 3072) : ∃ Jf : zzJ, zzEv 2000 zzLaw 18 [.ref 2000, .ref 0, .ref 46, .int 0] [] (zK (zzJ0 L xs)) (some (.int 1), zK Jf) := by
  obtain ⟨Jf, h⟩ := zz_loop L xs hL
  exact ⟨Jf, G_L_law_18 (by omega) 4096 0 (zzJ0 L xs) (1, Jf) h⟩
