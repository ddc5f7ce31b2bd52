/-! what the reference asks of THE RULE -/
/-- only the reference's scratch has changed: its fields 15 to 29 and its long 26 -/
abbrev zLow (J J1 : zzJ) : Prop :=
  (∀ b, b ≠ 46 → J1.2 b = J.2 b) ∧ (∀ k, (k < 15 ∨ 29 < k) → J1.2 46 k = J.2 46 k) ∧ ∀ b k, (b ≠ 46 ∨ k ≠ 26) → J1.1 b k = J.1 b k
theorem zLow.rf {J : zzJ} : zLow J J := ⟨fun _ _ => rfl, fun _ _ => rfl, fun _ _ _ => rfl⟩
theorem zLow.tr {J J1 J2 : zzJ} (h1 : zLow J J1) (h2 : zLow J1 J2) : zLow J J2 := ⟨fun b h => (h2.1 b h).trans (h1.1 b h), fun k h => (h2.2.1 k h).trans (h1.2.1 k h), fun b k h => (h2.2.2 b k h).trans (h1.2.2 b k h)⟩
theorem zLow.wr {J : zzJ} {k : Nat} {v : Int32} (h : 15 ≤ k ∧ k ≤ 29) : zLow J (wI J 46 k v) := ⟨fun b hb => wI_ne hb, fun j hj => by rw [wI_get, if_neg (by omega)], fun _ _ _ => rfl⟩
theorem zLow.tie {J J1 : zzJ} {w : zVw} {s : Nat} (h : zLow J J1) (t : zTieV J w s) : zTieV J1 w s := by
  refine ⟨fun i hi => ?_, fun k hk => ?_, ?_, ?_, ?_, ?_⟩
  · rw [h.1 50 (by omega), h.1 51 (by omega), h.1 52 (by omega), h.1 53 (by omega)]
    exact t.1 i hi
  · rw [h.1 54 (by omega)]
    exact t.2.1 k hk
  · exact (h.2.1 7 (by omega)).trans t.2.2.1
  · exact (h.2.1 8 (by omega)).trans t.2.2.2.1
  · exact (h.2.1 4 (by omega)).trans t.2.2.2.2.1
  · exact (h.2.1 14 (by omega)).trans t.2.2.2.2.2
/-- the TEXTS in the reference's rows are those that E tells of -/
def zTxR (E : zEv2) (n : Nat) (txt siz : Nat → Int32) : Prop :=
  (∀ (t p : Nat) (f g : Nat → Int32), (∀ k, k < 6 → f k = g k) → E t p f = E t p g) ∧
  ∀ (J : zzJ) (t p : Nat), J.2 47 = txt → J.2 48 = siz → t < n → p < 3 → ∃ J1 : zzJ, F_X7_read (nI t) (nI p) J = some (E t p (fun k => J.2 46 (15 + k)), J1) ∧ zLow J J1
theorem r_within {v lo hi : Int32} {J : zzJ} : F_X7_within v lo hi J = some (zBnd v lo hi, J) := by
  unfold F_X7_within zBnd
  by_cases h1 : v < lo
  · rw [if_pos h1, if_pos h1]
  · rw [if_neg h1, if_neg h1]
    by_cases h2 : hi < v
    · rw [if_pos h2, if_pos h2]
    · rw [if_neg h2, if_neg h2]
section AS
variable {E : zEv2} {n t s i p : Nat} {J : zzJ} {w : zVw} {m : Int32}
theorem r_asks_62 (hE : zTxR E n (J.2 47) (J.2 48)) (h4 : J.2 46 4 = nI t) (htn : t < n) (hp : p < 3) {b : Int32} : ∃ J1, F_X7_asks_62 (nI p) b J = some (zBnd (E t p (fun k => (wI J 46 20 b).2 46 (15 + k))) (if p = 2 then -99 else 0) 99, J1) ∧ zLow J J1 := by
  obtain ⟨J1, e1, l1⟩ := hE.2 (wI J 46 20 b) t p (wI_ne (by omega)) (wI_ne (by omega)) htn hp
  have h44 : (wI J 46 20 b).2 46 4 = nI t := by rw [wI_get, if_neg (by omega)]; exact h4
  refine ⟨J1, ?_, (zLow.wr (by omega)).tr l1⟩
  unfold F_X7_asks_62
  rw [h44, e1, Option.bind_some]
  dsimp only
  by_cases hp2 : p = 2
  · subst hp2
    rw [if_pos (show nI 2 = 2 from rfl), if_pos rfl, r_within]
    rfl
  · have : ¬ nI p = (2 : Int32) := fun e => hp2 (i_inj (by omega) (by omega) (e.trans (show (2 : Int32) = nI 2 from rfl)))
    rw [if_neg this, if_neg hp2, r_within]
    rfl
end AS
