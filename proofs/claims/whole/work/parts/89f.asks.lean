/-! text: what the reference asks a token -/
theorem lgc_8 : ∀ a, a < 256 → ∀ c, c < 64 → (lg_cmp (nI a).toInt64 (nI c).toInt64 = 0 ↔ a = c) := by decide +kernel
def zLw (w : List Nat) (j : Nat) : Int32 := if j < w.length then nI (w.getD j 0) else 0
section TQ
variable {J J1 J2 : zzJ} {b : Nat → Nat} {m p q e f i j k x : Nat} {w : List Nat}
theorem cd_1 (h : zKi b m p = 1) : p < m ∧ zLtr (b p) = true ∧ zCd b m p = zWi b p (zEn b m p) 12 0 := by
  unfold zKi at h
  by_cases hlt : p < m
  · rw [if_pos hlt] at h
    by_cases hl : zLtr (b p) = true
    · refine ⟨hlt, hl, ?_⟩
      unfold zCd
      rw [if_pos hlt, if_pos hl]
    · rw [if_neg hl] at h
      split at h
      · split at h <;> omega
      · split at h <;> omega
  · rw [if_neg hlt] at h; omega
theorem cd_2 (h : zKi b m p = 2) : p < m ∧ zCd b m p = zNv b p (zEn b m p - p) ∧ ∃ v, v < 10000 ∧ zCd b m p = nI v := by
  unfold zKi at h
  by_cases hlt : p < m
  · rw [if_pos hlt] at h
    by_cases hl : zLtr (b p) = true
    · rw [if_pos hl] at h; omega
    · rw [if_neg hl] at h
      by_cases hd : zDgt (b p) = true
      · rw [if_pos hd] at h
        by_cases h4 : 4 < zEn b m p - p
        · rw [if_pos h4] at h; omega
        · have e1 : zCd b m p = zNv b p (zEn b m p - p) := by
            unfold zCd
            rw [if_pos hlt, if_neg hl, if_pos hd, if_neg h4]
          have hen : zEn b m p = zSkip zDgt b m (m - p) p := by unfold zEn; rw [if_pos hlt, if_neg hl, if_pos hd]
          obtain ⟨v, hv, ev⟩ := zNv_4 (b := b) (p := p) (zEn b m p - p) (by omega) (fun j hj => zSkip_all (P := zDgt) (m - p) p (p + j) (by omega) (by rw [← hen]; omega))
          have hv4 : (10 : Nat) ^ (zEn b m p - p) ≤ 10 ^ 4 := Nat.pow_le_pow_right (by omega) (by omega)
          exact ⟨hlt, e1, v, by omega, e1.trans ev⟩
      · rw [if_neg hd] at h
        split at h <;> omega
  · rw [if_neg hlt] at h; omega
theorem cd_3 (h : zKi b m p = 3) : p < m ∧ zSgn (b p) = true ∧ zCd b m p = 11000 + nI (b p) := by
  unfold zKi at h
  by_cases hlt : p < m
  · rw [if_pos hlt] at h
    by_cases hl : zLtr (b p) = true
    · rw [if_pos hl] at h; omega
    · rw [if_neg hl] at h
      by_cases hd : zDgt (b p) = true
      · rw [if_pos hd] at h
        split at h <;> omega
      · rw [if_neg hd] at h
        by_cases hs : zSgn (b p) = true
        · refine ⟨hlt, hs, ?_⟩
          unfold zCd
          rw [if_pos hlt, if_neg hl, if_neg hd, if_pos hs]
        · rw [if_neg hs] at h; omega
  · rw [if_neg hlt] at h; omega
theorem cd_4 (h : zKi b m p = 4) : zCd b m p = -2 := by
  unfold zKi at h
  by_cases hlt : p < m
  · rw [if_pos hlt] at h
    by_cases hl : zLtr (b p) = true
    · rw [if_pos hl] at h; omega
    · rw [if_neg hl] at h
      unfold zCd
      rw [if_pos hlt, if_neg hl]
      by_cases hd : zDgt (b p) = true
      · rw [if_pos hd] at h ⊢
        by_cases h4 : 4 < zEn b m p - p
        · rw [if_pos h4]
        · rw [if_neg h4] at h; omega
      · rw [if_neg hd] at h ⊢
        by_cases hs : zSgn (b p) = true
        · rw [if_pos hs] at h; omega
        · rw [if_neg hs]
  · rw [if_neg hlt] at h; omega
theorem cd_0 (h : zKi b m p = 0) : ¬ p < m ∧ zCd b m p = -1 := by
  unfold zKi at h
  by_cases hlt : p < m
  · rw [if_pos hlt] at h
    split at h
    · omega
    · split at h
      · split at h <;> omega
      · split at h <;> omega
  · refine ⟨hlt, ?_⟩
    unfold zCd
    rw [if_neg hlt]
theorem ki_5 : zKi b m p < 5 := by
  unfold zKi
  split
  · split
    · omega
    · split
      · split <;> omega
      · split <;> omega
  · omega
theorem cd_word (h : zKi b m p = 1) : zCd b m p = -2 ∨ ∃ j, j < 12 ∧ zCd b m p = nI (10000 + j) ∧ zMt b p (zEn b m p) (zzTx (j + 1)) := by
  rw [(cd_1 h).2.2]
  exact zWi_v 12 0 (by omega)
/-- a sign is asked for -/
theorem r_isSign (g : zGr J b m p) (h28 : J.2 46 28 = 0) (hb : b p < 256) {c : Nat} (hc : c < 64) : F_X7_isSign (nI c) J = some (zOne (zCd b m p = nI (11000 + c)), J) := by
  obtain ⟨g25, g24, g23, g2, g3⟩ := g
  have nn : zKi b m p ≠ 3 → ¬ zCd b m p = nI (11000 + c) := by
    intro h e
    have h5 := ki_5 (b := b) (m := m) (p := p)
    have : zKi b m p = 0 ∨ zKi b m p = 1 ∨ zKi b m p = 2 ∨ zKi b m p = 4 := by omega
    rcases this with q | q | q | q
    · exact i_nm1 (k := 11000 + c) (by omega) (e.symm.trans (cd_0 q).2)
    · rcases cd_word q with r | ⟨j, hj, r, _⟩
      · exact i_nm2 (k := 11000 + c) (by omega) (e.symm.trans r)
      · have := i_inj (by omega) (by omega) (e.symm.trans r); omega
    · obtain ⟨_, _, v, hv, r⟩ := cd_2 q
      have := i_inj (by omega) (by omega) (e.symm.trans r); omega
    · exact i_nm2 (k := 11000 + c) (by omega) (e.symm.trans (cd_4 q))
  unfold F_X7_isSign
  rw [if_pos h28, g24]
  by_cases hk : zKi b m p = 3
  · obtain ⟨_, hs, hcd⟩ := cd_3 hk
    have hl := lgc_8 (b p) hb c hc
    rw [if_pos (by rw [hk]; rfl), g3 hk]
    by_cases hq : b p = c
    · rw [if_pos (hl.2 hq), zOne_t (by rw [hcd, hq, show (11000 : Int32) = nI 11000 from rfl, nI_add])]
    · rw [if_neg (fun z => hq (hl.1 z)), zOne_f (fun z => hq (by
        rw [hcd, show (11000 : Int32) = nI 11000 from rfl, nI_add] at z
        have := i_inj (by omega) (by omega) z
        omega))]
  · rw [if_neg (show ¬ nI (zKi b m p) = (3 : Int32) from fun z => hk (i_inj (m := 3) (by have := ki_5 (b := b) (m := m) (p := p); omega) (by omega) z)), zOne_f (nn hk)]
theorem r_isLet (t : zTr J b m f) (g25 : J.2 46 25 = nI p) (g23 : J.2 46 23 = nI e) (he : e ≤ m) (hpe : p ≤ e) (hj : j < 8) (v : Int32) : F_X7_isLetter (nI j) v J = some (zOne (if p + j < e then nI (b (p + j)) = v else v = 0), J) := by
  have hm := t.1.1
  unfold F_X7_isLetter
  rw [g25, g23, nI_add]
  by_cases h : p + j < e
  · rw [if_pos ((i_lts (by omega) (by omega)).2 h), r_byte t (by omega), if_pos (by omega), Option.bind_some]
    dsimp only
    by_cases hv : nI (b (p + j)) = v
    · rw [if_pos hv, zOne_t (by rw [if_pos h]; exact hv)]
    · rw [if_neg hv, zOne_f (by rw [if_pos h]; exact hv)]
  · rw [if_neg (fun q => h ((i_lts (by omega) (by omega)).1 q))]
    by_cases hv : v = 0
    · rw [if_pos hv, zOne_t (by rw [if_neg h]; exact hv)]
    · rw [if_neg hv, zOne_f (by rw [if_neg h]; exact hv)]
end TQ
