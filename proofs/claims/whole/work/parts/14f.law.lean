/-! the law's start, more of it -/
theorem zzSt6 : ∀ i, i < 13 → ∀ j, j < 13 → i ≠ j → (Jvm.Cond.not (Jvm.Cond.eq (zzTm i) (zzTm j)) ∈ zzFl ∨ Jvm.Cond.not (Jvm.Cond.eq (zzTm j) (zzTm i)) ∈ zzFl) := by
  intro i hi
  match i, hi with
  | 0, _ => exact zzSt6_0
  | 1, _ => exact zzSt6_1
  | 2, _ => exact zzSt6_2
  | 3, _ => exact zzSt6_3
  | 4, _ => exact zzSt6_4
  | 5, _ => exact zzSt6_5
  | 6, _ => exact zzSt6_6
  | 7, _ => exact zzSt6_7
  | 8, _ => exact zzSt6_8
  | 9, _ => exact zzSt6_9
  | 10, _ => exact zzSt6_10
  | 11, _ => exact zzSt6_11
  | 12, _ => exact zzSt6_12
theorem zzSt7 : ∀ i, i < 13 → zzLe.getD i 0 < 2 ^ 31 := by decide +kernel
theorem zzSt8 : ∀ r ∈ zzKS, r.2 < 13 ∧ zzTm r.2 = Term.string (zzR r.1.1) r.1.2 ∧ Jvm.Cond.stringRef (zzR r.1.1) r.1.2 (zzKt.getD r.2 "") ∈ lw_tbl := by decide +kernel
theorem zzSt9 : ∀ c, c < 8 → Jvm.Cond.instantiable (zzR c) (zzN c) ∈ lw_tbl := by decide +kernel
theorem zzStN : ∀ r ∈ zzNest, Jvm.Cond.methodLinkNest (zzR r.1) r.2.1 (zzM r.2.2).1 RX6 ∈ lw_tbl := by decide +kernel
theorem zzStA : Jvm.Cond.arrayOver (.object RX4) ∈ lw_tbl ∧ Jvm.Cond.laysStatic "java/lang/String" "COMPACT_STRINGS" "Z" ∈ lw_tbl ∧ Jvm.Cond.initialized "java/lang/String" ∈ lw_tbl ∧ Jvm.Cond.laysStatic "jdk/internal/util/Preconditions" "SIOOBE_FORMATTER" "Ljava/util/function/BiFunction;" ∈ lw_tbl ∧ Jvm.Cond.initialized "jdk/internal/util/Preconditions" ∈ lw_tbl := by decide +kernel
theorem zzStB : Jvm.Cond.eq (.static "java/lang/String" "COMPACT_STRINGS" "Z") (.int 1) ∈ zzFl ∧ Jvm.Cond.isRef (.static "jdk/internal/util/Preconditions" "SIOOBE_FORMATTER" "Ljava/util/function/BiFunction;") ∈ zzFl := by decide +kernel
theorem zz_arr {s : State} {args : Array Value} {ty : FieldType} (hp : refKind ty = false) (h : (Jvm.Cond.arrayClass ty).before args s = true) (hra : ∀ c, va_RA s c ty = (s.vm.findClass ("[" ++ ty.toString) = some c)) : ∃ c, ArrOfT s c ty ∧ va_RA s c ty := by
  obtain ⟨c, k, comp, h1, h2, h3⟩ := Cond.arrayClass_spec h
  exact ⟨c, fun n z => ⟨fun k h => (by cases h), k, h2, comp, h3⟩, by rw [hra]; exact h1⟩
