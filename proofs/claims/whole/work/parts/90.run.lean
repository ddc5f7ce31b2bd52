/-! what is left to show: the law's run, for every script -/
theorem zz_run (L : Nat) (xs : Nat → Int32) (hL : L ≤ 3072) : ∃ n Zf, zzExec n 2000 zzLaw 0 [.ref 2000, zzU, zzU, zzU] [] (zzZ0 L xs) = some (some (.int 1), Zf) ∧ Zf.1.length ≤ 600000 ∧ zzSl Zf ≤ 7302250 := by
  sorry
