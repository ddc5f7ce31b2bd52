/-! the law's start, more of it -/
set_option maxRecDepth 100000 in
theorem zzSt6_10 : ∀ j, j < 13 → 10 ≠ j → (Jvm.Cond.not (Jvm.Cond.eq (zzTm 10) (zzTm j)) ∈ zzFl ∨ Jvm.Cond.not (Jvm.Cond.eq (zzTm j) (zzTm 10)) ∈ zzFl) := by decide +kernel
set_option maxRecDepth 100000 in
theorem zzSt6_11 : ∀ j, j < 13 → 11 ≠ j → (Jvm.Cond.not (Jvm.Cond.eq (zzTm 11) (zzTm j)) ∈ zzFl ∨ Jvm.Cond.not (Jvm.Cond.eq (zzTm j) (zzTm 11)) ∈ zzFl) := by decide +kernel
set_option maxRecDepth 100000 in
theorem zzSt6_12 : ∀ j, j < 13 → 12 ≠ j → (Jvm.Cond.not (Jvm.Cond.eq (zzTm 12) (zzTm j)) ∈ zzFl ∨ Jvm.Cond.not (Jvm.Cond.eq (zzTm j) (zzTm 12)) ∈ zzFl) := by decide +kernel
