/-! the start: the two objects are made, then the loop -/
def zzZ00 : zzH := ([], fun _ _ => none, fun a _ => if a = 2000 then -1 else 0, fun _ _ => 0)
def zzP : Option (List Value × List Value × zzH) := zzTo 18 6000 2000 zzLaw 0 [.ref 2000, zzU, zzU, zzU] [] zzZ00
def zzPz (x : Option (List Value × List Value × zzH)) : zzH := match x with
  | some q => q.2.2
  | none => zzZ00
def zzZ4 : zzH := zzPz zzP
set_option maxRecDepth 1000000 in
theorem zzP_ls : (zzP.map fun q => (q.1, q.2.1)) = some ([.ref 2000, .ref 0, .ref 46, .int 0], []) := by decide +kernel
theorem zzP_ok : zzTo 18 6000 2000 zzLaw 0 [.ref 2000, zzU, zzU, zzU] [] zzZ00 = some ([.ref 2000, .ref 0, .ref 46, .int 0], [], zzZ4) := by
  have h := zzP_ls
  unfold zzZ4
  unfold zzP at h ⊢
  generalize zzTo 18 6000 2000 zzLaw 0 [.ref 2000, zzU, zzU, zzU] [] zzZ00 = x at h ⊢
  cases x with
  | none => cases h
  | some q =>
    obtain ⟨a, b, z⟩ := q
    rw [Option.map_some] at h
    have h1 := Option.some.inj h
    have h2 : a = [.ref 2000, .ref 0, .ref 46, .int 0] := congrArg Prod.fst h1
    have h3 : b = [] := congrArg Prod.snd h1
    rw [h2, h3]
    rfl
set_option maxRecDepth 1000000 in
theorem zzZ4_sh : zzZ4.1 = zSH := by decide +kernel
theorem zSH_len : zSH.length = 66 := rfl
theorem zzZ4_sl' : zzSl zzZ4 = (zSH.map Prod.snd).sum := by unfold zzSl; rw [zzZ4_sh]
set_option maxRecDepth 1000000 in
theorem zzZ4_mr : ∀ a, a < 66 → (zKd a < 8 ∨ zKd a = 10) → ∀ k, k < zSz a → zzZ4.2.1 a k = zMR a k := by decide +kernel
