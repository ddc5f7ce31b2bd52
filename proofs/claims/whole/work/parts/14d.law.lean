/-! the law's start, more of it -/
set_option maxRecDepth 100000 in
theorem zzSt6_7 : ∀ j, j < 13 → 7 ≠ j → (Jvm.Cond.not (Jvm.Cond.eq (zzTm 7) (zzTm j)) ∈ zzFl ∨ Jvm.Cond.not (Jvm.Cond.eq (zzTm j) (zzTm 7)) ∈ zzFl) := by decide +kernel
set_option maxRecDepth 100000 in
theorem zzSt6_8 : ∀ j, j < 13 → 8 ≠ j → (Jvm.Cond.not (Jvm.Cond.eq (zzTm 8) (zzTm j)) ∈ zzFl ∨ Jvm.Cond.not (Jvm.Cond.eq (zzTm j) (zzTm 8)) ∈ zzFl) := by decide +kernel
set_option maxRecDepth 100000 in
theorem zzSt6_9 : ∀ j, j < 13 → 9 ≠ j → (Jvm.Cond.not (Jvm.Cond.eq (zzTm 9) (zzTm j)) ∈ zzFl ∨ Jvm.Cond.not (Jvm.Cond.eq (zzTm j) (zzTm 9)) ∈ zzFl) := by decide +kernel
