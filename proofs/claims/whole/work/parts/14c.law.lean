/-! the law's start, more of it -/
set_option maxRecDepth 100000 in
theorem zzSt6_4 : ∀ j, j < 13 → 4 ≠ j → (Jvm.Cond.not (Jvm.Cond.eq (zzTm 4) (zzTm j)) ∈ zzFl ∨ Jvm.Cond.not (Jvm.Cond.eq (zzTm j) (zzTm 4)) ∈ zzFl) := by decide +kernel
set_option maxRecDepth 100000 in
theorem zzSt6_5 : ∀ j, j < 13 → 5 ≠ j → (Jvm.Cond.not (Jvm.Cond.eq (zzTm 5) (zzTm j)) ∈ zzFl ∨ Jvm.Cond.not (Jvm.Cond.eq (zzTm j) (zzTm 5)) ∈ zzFl) := by decide +kernel
set_option maxRecDepth 100000 in
theorem zzSt6_6 : ∀ j, j < 13 → 6 ≠ j → (Jvm.Cond.not (Jvm.Cond.eq (zzTm 6) (zzTm j)) ∈ zzFl ∨ Jvm.Cond.not (Jvm.Cond.eq (zzTm j) (zzTm 6)) ∈ zzFl) := by decide +kernel
