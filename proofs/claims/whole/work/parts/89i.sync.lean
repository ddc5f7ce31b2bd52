/-! text: both readers stand at a token -/
/-- the class's reader at p: nothing has failed -/
abbrev zSc (J : zzJ) (b : Nat → Nat) (m p n r : Nat) : Prop := zTp J b m ∧ zCd b m p ≠ -2 ∧ J.2 5 3 = nI p ∧ J.2 5 5 = zCd b m p ∧ J.2 5 4 = nI (zEn b m p) ∧ J.2 5 6 = -1 ∧ J.2 1 3 = nI n ∧ J.2 1 4 = nI r
/-- the class's reader has failed at q -/
abbrev zSf (J : zzJ) (b : Nat → Nat) (m q n r : Nat) : Prop := zTp J b m ∧ q ≤ m ∧ J.2 5 5 = -2 ∧ J.2 5 6 = nI q ∧ J.2 1 3 = nI n ∧ J.2 1 4 = nI r
/-- but for the reader's fields, the codes' end and the codes from r on nothing has changed -/
abbrev zFrD (r : Nat) (J J1 : zzJ) : Prop := J1.1 = J.1 ∧ (∀ c, c ≠ 5 → c ≠ 1 → c ≠ 2 → J1.2 c = J.2 c) ∧ (∀ k, k ≠ 3 → k ≠ 4 → k ≠ 5 → k ≠ 6 → J1.2 5 k = J.2 5 k) ∧ (∀ k, k ≠ 4 → J1.2 1 k = J.2 1 k) ∧ ∀ k, k < r → J1.2 2 k = J.2 2 k
section SY
variable {J J1 J2 : zzJ} {b : Nat → Nat} {m p q e f i j k x n r r' o : Nat}
theorem zFrD.rf : zFrD r J J := ⟨rfl, fun _ _ _ _ => rfl, fun _ _ _ _ _ => rfl, fun _ _ => rfl, fun _ _ => rfl⟩
theorem zFrD.tr (hr : r ≤ r') (h1 : zFrD r J J1) (h2 : zFrD r' J1 J2) : zFrD r J J2 := ⟨h2.1.trans h1.1, fun c a b d => (h2.2.1 c a b d).trans (h1.2.1 c a b d), fun k a b c d => (h2.2.2.1 k a b c d).trans (h1.2.2.1 k a b c d), fun k a => (h2.2.2.2.1 k a).trans (h1.2.2.2.1 k a), fun k a => (h2.2.2.2.2 k (by omega)).trans (h1.2.2.2.2 k a)⟩
theorem zFrD.of (h : zFrT J J1) : zFrD r J J1 := ⟨h.1, fun c a _ _ => h.2.1 c a, h.2.2, fun k _ => by rw [h.2.1 1 (by omega)], fun k _ => by rw [h.2.1 2 (by omega)]⟩
theorem zTp.fd (t : zTp J b m) (h : zFrD r J J1) : zTp J1 b m := ⟨t.1, (h.2.2.1 2 (by omega) (by omega) (by omega) (by omega)).trans t.2.1, fun k hk => by rw [h.2.1 6 (by omega) (by omega) (by omega)]; exact t.2.2.1 k hk, t.2.2.2⟩
theorem zEn_le (h : p ≤ m) : p ≤ zEn b m p ∧ zEn b m p ≤ m := by
  unfold zEn
  split
  · split
    · have := zSkip_le (P := zLtr) (b := b) (m := m) (m - p) p
      exact ⟨this.1, this.2 h⟩
    · split
      · have := zSkip_le (P := zDgt) (b := b) (m := m) (m - p) p
        exact ⟨this.1, this.2 h⟩
      · omega
  · omega
/-- a token that is there has bytes -/
theorem zEn_lt (h : p < m) : p < zEn b m p := by
  unfold zEn
  rw [if_pos h]
  split
  · rename_i hl
    rw [zSkip_go h hl]
    have := (zSkip_le (P := zLtr) (b := b) (m := m) (m - (p + 1)) (p + 1)).1
    omega
  · split
    · rename_i hl
      rw [zSkip_go h hl]
      have := (zSkip_le (P := zDgt) (b := b) (m := m) (m - (p + 1)) (p + 1)).1
      omega
    · omega
theorem zNb_le (h : e ≤ m) : e ≤ zNb b m e ∧ zNb b m e ≤ m := by
  have := zSkip_le (P := zBlk) (b := b) (m := m) (m - e) e
  exact ⟨this.1, this.2 h⟩
/-- where the next token starts -/
abbrev zNt (b : Nat → Nat) (m p : Nat) : Nat := zNb b m (zEn b m p)
theorem zNt_le (h : p ≤ m) : p ≤ zNt b m p ∧ zNt b m p ≤ m := by
  have h1 := zEn_le (b := b) h
  have h2 := zNb_le (b := b) h1.2
  unfold zNt
  omega
theorem zNt_lt (h : p < m) : p < zNt b m p := by
  have h1 := zEn_lt (b := b) h
  have h2 := zNb_le (b := b) (zEn_le (b := b) (show p ≤ m by omega)).2
  unfold zNt
  omega
/-- the class goes on: it stands at the next token, or has failed there -/
theorem s_adv (h : zSc J b m p n r) (hp : p ≤ m) : ∃ J1, F_X2_advance J = some J1 ∧ zFrD r J J1 ∧ ((zCd b m (zNt b m p) ≠ -2 ∧ zSc J1 b m (zNt b m p) n r) ∨ (zCd b m (zNt b m p) = -2 ∧ zSf J1 b m (zNt b m p) n r)) := by
  obtain ⟨t, h2, h3, h5, h4, h6, h13, h14⟩ := h
  obtain ⟨J1, e1, fr, g3, g5, gn, gf⟩ := t_adv t h4 (zEn_le hp).2 h6
  have k13 : J1.2 1 3 = nI n := by rw [fr.2.1 1 (by omega)]; exact h13
  have k14 : J1.2 1 4 = nI r := by rw [fr.2.1 1 (by omega)]; exact h14
  refine ⟨J1, e1, zFrD.of fr, ?_⟩
  by_cases hc : zCd b m (zNt b m p) = -2
  · exact Or.inr ⟨hc, t.fr fr, (zNt_le hp).2, g5.trans hc, gf hc, k13, k14⟩
  · exact Or.inl ⟨hc, t.fr fr, hc, g3, g5, (gn hc).1, (gn hc).2, k13, k14⟩
/-- the class fails at p -/
theorem s_fail (h : zSc J b m p n r) (hp : p ≤ m) : ∃ J1, F_X2_fail J = some J1 ∧ zFrD r J J1 ∧ zSf J1 b m p n r := by
  obtain ⟨t, h2, h3, h5, h4, h6, h13, h14⟩ := h
  obtain ⟨J1, e1, fr, g5, g6⟩ := b_fail h6 h3
  exact ⟨J1, e1, zFrD.of fr, t.fr fr, hp, g5, g6, by rw [fr.2.1 1 (by omega)]; exact h13, by rw [fr.2.1 1 (by omega)]; exact h14⟩
/-- what has failed stays so -/
theorem s_fail2 (h : zSf J b m q n r) : ∃ J1, F_X2_fail J = some J1 ∧ zFrD r J J1 ∧ zSf J1 b m q n r := by
  obtain ⟨t, hq, h5, h6, h13, h14⟩ := h
  have hm := t.1
  obtain ⟨J1, e1, fr, g5, g6⟩ := b_fail2 (by rw [h6]; exact i_nm1 (by omega)) h5
  exact ⟨J1, e1, zFrD.of fr, t.fr fr, hq, g5, g6.trans h6, by rw [fr.2.1 1 (by omega)]; exact h13, by rw [fr.2.1 1 (by omega)]; exact h14⟩
end SY
