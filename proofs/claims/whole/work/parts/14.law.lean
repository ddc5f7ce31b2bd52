/-! the law's start: a run of the law's own body gives the claim -/
theorem zzM_law : zzM zzLaw = (yL_law, cL_law, 4, (some .boolean), 8, 1, 0, zzc_213) := by
  have e : zzMsA.length = 213 := by decide +kernel
  unfold zzM zzMs zzLaw
  rw [List.getD_eq_getElem?_getD, List.getElem?_append_right (by rw [e]; exact Nat.le_refl _), e]
  rfl
def zzTm (i : Nat) : Term := Term.string (zzR (zzKS.getD i ((0, 0), 0)).1.1) (zzKS.getD i ((0, 0), 0)).1.2
def zzLe : List Nat := zzKc.map List.length
def zzBy : List (List Int32) := zzKc.map fun l => l.map fun n => Int32.ofNat n
def zzFl : List Jvm.Cond := flatC (Jvm.Cond.and given_1 narrow_1)
set_option maxRecDepth 100000 in
theorem zzSt1 : ∀ i, i < 13 → Jvm.Cond.exactly (zzTm i) "java/lang/String" ∈ zzFl := by decide +kernel
set_option maxRecDepth 100000 in
theorem zzSt2 : ∀ i, i < 13 → Jvm.Cond.eq (.field (zzTm i) "java/lang/String" "coder" "B") (.int 0) ∈ zzFl := by decide +kernel
set_option maxRecDepth 100000 in
theorem zzSt3 : ∀ i, i < 13 → Jvm.Cond.arrayOf (.field (zzTm i) "java/lang/String" "value" "[B") .byte ∈ zzFl := by decide +kernel
set_option maxRecDepth 100000 in
theorem zzSt4 : ∀ i, i < 13 → Jvm.Cond.eq (.length (.field (zzTm i) "java/lang/String" "value" "[B")) (.int (Int32.ofNat (zzLe.getD i 0))) ∈ zzFl := by decide +kernel
set_option maxRecDepth 100000 in
theorem zzSt5 : ∀ i, i < 13 → ∀ j, j < zzLe.getD i 0 → Jvm.Cond.eq (.elem (.field (zzTm i) "java/lang/String" "value" "[B") (.int (Int32.ofNat j))) (.int ((zzBy.getD i []).getD j 0)) ∈ zzFl := by decide +kernel
set_option maxRecDepth 100000 in
theorem zzSt6 : ∀ i, i < 13 → ∀ j, j < 13 → i ≠ j → (Jvm.Cond.not (Jvm.Cond.eq (zzTm i) (zzTm j)) ∈ zzFl ∨ Jvm.Cond.not (Jvm.Cond.eq (zzTm j) (zzTm i)) ∈ zzFl) := by decide +kernel
theorem zzSt7 : ∀ i, i < 13 → zzLe.getD i 0 < 2 ^ 31 := by decide +kernel
theorem zzSt8 : ∀ r ∈ zzKS, r.2 < 13 ∧ zzTm r.2 = Term.string (zzR r.1.1) r.1.2 ∧ Jvm.Cond.stringRef (zzR r.1.1) r.1.2 (zzKt.getD r.2 "") ∈ lw_tbl := by decide +kernel
theorem zzSt9 : ∀ c, c < 8 → Jvm.Cond.instantiable (zzR c) (zzN c) ∈ lw_tbl := by decide +kernel
theorem zzStN : ∀ r ∈ zzNest, Jvm.Cond.methodLinkNest (zzR r.1) r.2.1 (zzM r.2.2).1 RX6 ∈ lw_tbl := by decide +kernel
theorem zzStA : Jvm.Cond.arrayOver (.object RX4) ∈ lw_tbl ∧ Jvm.Cond.laysStatic "java/lang/String" "COMPACT_STRINGS" "Z" ∈ lw_tbl ∧ Jvm.Cond.initialized "java/lang/String" ∈ lw_tbl ∧ Jvm.Cond.laysStatic "jdk/internal/util/Preconditions" "SIOOBE_FORMATTER" "Ljava/util/function/BiFunction;" ∈ lw_tbl ∧ Jvm.Cond.initialized "jdk/internal/util/Preconditions" ∈ lw_tbl := by decide +kernel
theorem zzStB : Jvm.Cond.eq (.static "java/lang/String" "COMPACT_STRINGS" "Z") (.int 1) ∈ zzFl ∧ Jvm.Cond.isRef (.static "jdk/internal/util/Preconditions" "SIOOBE_FORMATTER" "Ljava/util/function/BiFunction;") ∈ zzFl := by decide +kernel
theorem zz_arr {s : State} {args : Array Value} {ty : FieldType} (hp : refKind ty = false) (h : (Jvm.Cond.arrayClass ty).before args s = true) (hra : ∀ c, va_RA s c ty = (s.vm.findClass ("[" ++ ty.toString) = some c)) : ∃ c, ArrOfT s c ty ∧ va_RA s c ty := by
  obtain ⟨c, k, comp, h1, h2, h3⟩ := Cond.arrayClass_spec h
  exact ⟨c, fun n z => ⟨fun k h => (by cases h), k, h2, comp, h3⟩, by rw [hra]; exact h1⟩
