/-! the law's start: a run of the law's own body gives the claim -/
theorem zzM_law : zzM zzLaw = (yL_law, cL_law, 4, (some .boolean), 8, 1, 0, zzc_213) := by
  have e : zzMsA.length = 213 := by decide +kernel
  unfold zzM zzMs zzLaw
  rw [List.getD_eq_getElem?_getD, List.getElem?_append_right (by rw [e]; exact Nat.le_refl _), e]
  rfl
def zzTm (i : Nat) : Term := Term.string (zzR (zzKS.getD i ((0, 0), 0)).1.1) (zzKS.getD i ((0, 0), 0)).1.2
def zzLe : List Nat := zzKc.map List.length
def zzBy : List (List Int32) := zzKc.map fun l => l.map fun n => Int32.ofNat n
def zzFl : List Jvm.Cond := flatC (Jvm.Cond.and given_1 narrow_1)
set_option maxRecDepth 100000 in
theorem zzSt1 : ∀ i, i < 13 → Jvm.Cond.exactly (zzTm i) "java/lang/String" ∈ zzFl := by decide +kernel
set_option maxRecDepth 100000 in
theorem zzSt2 : ∀ i, i < 13 → Jvm.Cond.eq (.field (zzTm i) "java/lang/String" "coder" "B") (.int 0) ∈ zzFl := by decide +kernel
set_option maxRecDepth 100000 in
theorem zzSt3 : ∀ i, i < 13 → Jvm.Cond.arrayOf (.field (zzTm i) "java/lang/String" "value" "[B") .byte ∈ zzFl := by decide +kernel
