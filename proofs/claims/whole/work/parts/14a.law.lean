/-! the law's start, more of it -/
set_option maxRecDepth 100000 in
theorem zzSt4 : ∀ i, i < 13 → Jvm.Cond.eq (.length (.field (zzTm i) "java/lang/String" "value" "[B")) (.int (Int32.ofNat (zzLe.getD i 0))) ∈ zzFl := by decide +kernel
set_option maxRecDepth 100000 in
theorem zzSt5 : ∀ i, i < 13 → ∀ j, j < zzLe.getD i 0 → Jvm.Cond.eq (.elem (.field (zzTm i) "java/lang/String" "value" "[B") (.int (Int32.ofNat j))) (.int ((zzBy.getD i []).getD j 0)) ∈ zzFl := by decide +kernel
