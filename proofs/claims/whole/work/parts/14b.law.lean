/-! the law's start, more of it -/
set_option maxRecDepth 100000 in
theorem zzSt6_0 : ∀ j, j < 13 → 0 ≠ j → (Jvm.Cond.not (Jvm.Cond.eq (zzTm 0) (zzTm j)) ∈ zzFl ∨ Jvm.Cond.not (Jvm.Cond.eq (zzTm j) (zzTm 0)) ∈ zzFl) := by decide +kernel
set_option maxRecDepth 100000 in
theorem zzSt6_1 : ∀ j, j < 13 → 1 ≠ j → (Jvm.Cond.not (Jvm.Cond.eq (zzTm 1) (zzTm j)) ∈ zzFl ∨ Jvm.Cond.not (Jvm.Cond.eq (zzTm j) (zzTm 1)) ∈ zzFl) := by decide +kernel
set_option maxRecDepth 100000 in
theorem zzSt6_2 : ∀ j, j < 13 → 2 ≠ j → (Jvm.Cond.not (Jvm.Cond.eq (zzTm 2) (zzTm j)) ∈ zzFl ∨ Jvm.Cond.not (Jvm.Cond.eq (zzTm j) (zzTm 2)) ∈ zzFl) := by decide +kernel
set_option maxRecDepth 100000 in
theorem zzSt6_3 : ∀ j, j < 13 → 3 ≠ j → (Jvm.Cond.not (Jvm.Cond.eq (zzTm 3) (zzTm j)) ∈ zzFl ∨ Jvm.Cond.not (Jvm.Cond.eq (zzTm j) (zzTm 3)) ∈ zzFl) := by decide +kernel
