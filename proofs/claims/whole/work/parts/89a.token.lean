/-! text: tokens -/
def zLtr (x : Nat) : Bool := decide (97 ≤ x) && decide (x ≤ 122)
def zDgt (x : Nat) : Bool := decide (48 ≤ x) && decide (x ≤ 57)
def zBlk (x : Nat) : Bool := decide (x = 32) || decide (x = 10)
def zSgn (x : Nat) : Bool := [40, 41, 42, 43, 45, 59, 60, 61].contains x
def zSkip (P : Nat → Bool) (b : Nat → Nat) (m : Nat) : Nat → Nat → Nat
  | 0, p => p
  | f + 1, p => if p < m ∧ P (b p) = true then zSkip P b m f (p + 1) else p
abbrev zNb (b : Nat → Nat) (m p : Nat) : Nat := zSkip zBlk b m (m - p) p
abbrev zMt (b : Nat → Nat) (p e : Nat) (w : List Nat) : Prop := e = p + w.length ∧ ∀ j, j < w.length → w.getD j 0 = b (p + j)
def zWi (b : Nat → Nat) (p e : Nat) : Nat → Nat → Int32
  | 0, _ => -2
  | f + 1, i => if zMt b p e (zzTx (i + 1)) then nI (10000 + i) else zWi b p e f (i + 1)
def zNv (b : Nat → Nat) (p : Nat) : Nat → Int32
  | 0 => 0
  | k + 1 => zNv b p k * 10 + nI (b (p + k)) - 48
def zEn (b : Nat → Nat) (m p : Nat) : Nat := if p < m then (if zLtr (b p) then zSkip zLtr b m (m - p) p else if zDgt (b p) then zSkip zDgt b m (m - p) p else p + 1) else p
def zCd (b : Nat → Nat) (m p : Nat) : Int32 := if p < m then (if zLtr (b p) then zWi b p (zEn b m p) 12 0 else if zDgt (b p) then (if 4 < zEn b m p - p then -2 else zNv b p (zEn b m p - p)) else if zSgn (b p) then 11000 + nI (b p) else -2) else -1
/-- the class's tape -/
abbrev zTp (J : zzJ) (b : Nat → Nat) (m : Nat) : Prop := m ≤ 160 ∧ J.2 5 2 = nI m ∧ (∀ k, k < m → J.2 6 k = nI (b k)) ∧ ∀ k, b k < 256
/-- but for the reader's fields nothing has changed -/
abbrev zFrT (J J1 : zzJ) : Prop := J1.1 = J.1 ∧ (∀ c, c ≠ 5 → J1.2 c = J.2 c) ∧ ∀ k, k ≠ 3 → k ≠ 4 → k ≠ 5 → k ≠ 6 → J1.2 5 k = J.2 5 k
section TK
variable {J J1 J2 : zzJ} {b : Nat → Nat} {m p q e i j k : Nat} {P : Nat → Bool}
theorem zSkip_le : ∀ (f p : Nat), p ≤ zSkip P b m f p ∧ (p ≤ m → zSkip P b m f p ≤ m) := by
  intro f
  induction f with
  | zero => intro p; exact ⟨Nat.le_refl p, fun h => h⟩
  | succ f ih =>
    intro p
    rw [zSkip]
    split
    · rename_i h
      have := ih (p + 1)
      exact ⟨by omega, fun _ => this.2 (by omega)⟩
    · exact ⟨Nat.le_refl p, fun h => h⟩
theorem zSkip_go (h : p < m) (hp : P (b p) = true) : zSkip P b m (m - p) p = zSkip P b m (m - (p + 1)) (p + 1) := by
  rw [show m - p = (m - (p + 1)) + 1 by omega, zSkip, if_pos ⟨h, hp⟩]
theorem zSkip_no (hp : ¬ (p < m ∧ P (b p) = true)) : ∀ f, zSkip P b m f p = p := by
  intro f
  cases f with
  | zero => rfl
  | succ f => rw [zSkip, if_neg hp]
theorem zFrT.rf : zFrT J J := ⟨rfl, fun _ _ => rfl, fun _ _ _ _ _ => rfl⟩
theorem zFrT.tr (h1 : zFrT J J1) (h2 : zFrT J1 J2) : zFrT J J2 := ⟨h2.1.trans h1.1, fun c h => (h2.2.1 c h).trans (h1.2.1 c h), fun k a b c d => (h2.2.2 k a b c d).trans (h1.2.2 k a b c d)⟩
theorem zFrT.wr {v : Int32} (h : k = 3 ∨ k = 4 ∨ k = 5 ∨ k = 6) : zFrT J (wI J 5 k v) := ⟨rfl, fun c hc => wI_ne hc, fun j _ _ _ _ => by rw [wI_g, if_neg (by omega)]⟩
theorem zTp.fr (t : zTp J b m) (f : zFrT J J1) : zTp J1 b m := ⟨t.1, (f.2.2 2 (by omega) (by omega) (by omega) (by omega)).trans t.2.1, fun k hk => by rw [f.2.1 6 (by omega)]; exact t.2.2.1 k hk, t.2.2.2⟩
theorem b_byte (t : zTp J b m) (hp : p ≤ 160) : F_X2_byteAt (nI p) J = some ((if p < m then nI (b p) else -1), J) := by
  have hm := t.1
  unfold F_X2_byteAt
  rw [if_neg (by rw [i_lt, i_nI (by omega)]; show ¬ (p : Int) < 0; omega), t.2.1]
  by_cases h : p < m
  · rw [if_pos ((i_lts (by omega) (by omega)).2 h), if_pos h, if_pos (show nI p < (160 : Int32) from (i_lts (s := 160) (by omega) (by omega)).2 (by omega)), if_pos (i_ix (by omega) (by omega)), i_cm (by omega), t.2.2.1 p h]
  · rw [if_neg (fun q => h ((i_lts (by omega) (by omega)).1 q)), if_neg h]
theorem b_letter {x : Nat} (hx : x < 256) : F_X2_isLetter (nI x) J = some (zOne (zLtr x = true), J) := by
  unfold F_X2_isLetter zLtr zOne
  by_cases h1 : x < 97
  · rw [if_pos (show nI x < (97 : Int32) from (i_lts (s := 97) (by omega) (by omega)).2 h1), if_neg (by simp; omega)]
  · rw [if_neg (show ¬ nI x < (97 : Int32) from fun q => h1 ((i_lts (s := 97) (by omega) (by omega)).1 q))]
    by_cases h2 : 122 < x
    · rw [if_pos (show (122 : Int32) < nI x from (i_lts (i := 122) (by omega) (by omega)).2 h2), if_neg (by simp; omega)]
    · rw [if_neg (show ¬ (122 : Int32) < nI x from fun q => h2 ((i_lts (i := 122) (by omega) (by omega)).1 q)), if_pos (by simp; omega)]
theorem b_digit {x : Nat} (hx : x < 256) : F_X2_isDigit (nI x) J = some (zOne (zDgt x = true), J) := by
  unfold F_X2_isDigit zDgt zOne
  by_cases h1 : x < 48
  · rw [if_pos (show nI x < (48 : Int32) from (i_lts (s := 48) (by omega) (by omega)).2 h1), if_neg (by simp; omega)]
  · rw [if_neg (show ¬ nI x < (48 : Int32) from fun q => h1 ((i_lts (s := 48) (by omega) (by omega)).1 q))]
    by_cases h2 : 57 < x
    · rw [if_pos (show (57 : Int32) < nI x from (i_lts (i := 57) (by omega) (by omega)).2 h2), if_neg (by simp; omega)]
    · rw [if_neg (show ¬ (57 : Int32) < nI x from fun q => h2 ((i_lts (i := 57) (by omega) (by omega)).1 q)), if_pos (by simp; omega)]
theorem b_blank {x : Nat} (hx : x < 256) : F_X2_isBlank (nI x) J = some (zOne (zBlk x = true), J) := by
  unfold F_X2_isBlank zBlk zOne
  by_cases h1 : x = 32
  · rw [if_pos (by rw [h1]; rfl), if_pos (by simp [h1])]
  · rw [if_neg (show ¬ nI x = (32 : Int32) from fun q => h1 (i_inj (k := x) (m := 32) (by omega) (by omega) q))]
    by_cases h2 : x = 10
    · rw [if_pos (by rw [h2]; rfl), if_pos (by simp [h2])]
    · rw [if_neg (show ¬ nI x = (10 : Int32) from fun q => h2 (i_inj (k := x) (m := 10) (by omega) (by omega) q)), if_neg (by simp [h1, h2])]
/-- what fails -/
theorem b_fail (h6 : J.2 5 6 = -1) (h3 : J.2 5 3 = nI p) : ∃ J1, F_X2_fail J = some J1 ∧ zFrT J J1 ∧ J1.2 5 5 = -2 ∧ J1.2 5 6 = nI p := by
  refine ⟨wI (wI J 5 6 (nI p)) 5 5 (-2), ?_, (zFrT.wr (by omega)).tr (zFrT.wr (by omega)), ?_, ?_⟩
  · unfold F_X2_fail
    rw [if_pos h6, h3]
  · rw [wI_g, if_pos rfl]
  · rw [wI_g, if_neg (by omega), wI_g, if_pos rfl]
theorem b_fail2 (h6 : ¬ J.2 5 6 = -1) (h5 : J.2 5 5 = -2) : ∃ J1, F_X2_fail J = some J1 ∧ zFrT J J1 ∧ J1.2 5 5 = -2 ∧ J1.2 5 6 = J.2 5 6 := by
  refine ⟨wI J 5 5 (-2), ?_, zFrT.wr (by omega), ?_, ?_⟩
  · unfold F_X2_fail
    rw [if_neg h6]
  · rw [wI_g, if_pos rfl]
  · rw [wI_g, if_neg (by omega)]
end TK
