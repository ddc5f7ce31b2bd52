/-! text: words that the reference asks for -/
theorem tx_ne : ∀ i, i < 12 → ∀ j, j < 12 → (i = j ∨ (zzTx (i + 1)).length ≠ (zzTx (j + 1)).length ∨ ∃ k, k < 8 ∧ k < (zzTx (i + 1)).length ∧ (zzTx (i + 1)).getD k 0 ≠ (zzTx (j + 1)).getD k 0) := by decide +kernel
theorem tx_ok : ∀ i, i < 12 → (zzTx (i + 1)).length ≤ 8 ∧ ∀ j, j < 8 → (j < (zzTx (i + 1)).length → 0 < (zzTx (i + 1)).getD j 0) ∧ (zzTx (i + 1)).getD j 0 < 256 := by decide +kernel
section TW
variable {J J1 J2 : zzJ} {b : Nat → Nat} {m p q e f i j k x : Nat} {w : List Nat}
theorem mt_inj (hi : i < 12) (hj : j < 12) (h1 : zMt b p e (zzTx (i + 1))) (h2 : zMt b p e (zzTx (j + 1))) : i = j := by
  rcases tx_ne i hi j hj with h | h | ⟨k, _, hk, h⟩
  · exact h
  · exact absurd (by have := h1.1; have := h2.1; omega) h
  · exact absurd ((h1.2 k hk).trans (h2.2 k (by have := h1.1; have := h2.1; omega)).symm) h
theorem zWi_no : ∀ (f i : Nat), zWi b p e f i = -2 → ∀ j, i ≤ j → j < i + f → i + f = 12 → ¬ zMt b p e (zzTx (j + 1)) := by
  intro f
  induction f with
  | zero => intro i _ j h1 h2; omega
  | succ f ih =>
    intro i h j h1 h2 h3
    rw [zWi] at h
    split at h
    · exact absurd h (i_nm2 (by omega))
    · rename_i hn
      by_cases hj : j = i
      · rw [hj]; exact hn
      · exact ih (i + 1) h j (by omega) (by omega) (by omega)
theorem cd_wi (hi : i < 12) : (zKi b m p = 1 ∧ zMt b p (zEn b m p) (zzTx (i + 1))) ↔ zCd b m p = nI (10000 + i) := by
  constructor
  · intro ⟨h, hm⟩
    rcases cd_word h with r | ⟨j, hj, r, hj2⟩
    · rw [(cd_1 h).2.2] at r
      exact absurd hm (zWi_no 12 0 r i (by omega) (by omega) (by omega))
    · rw [r, mt_inj hi hj hm hj2]
  · intro e
    have h5 := ki_5 (b := b) (m := m) (p := p)
    have : zKi b m p = 0 ∨ zKi b m p = 1 ∨ zKi b m p = 2 ∨ zKi b m p = 3 ∨ zKi b m p = 4 := by omega
    rcases this with q | q | q | q | q
    · exact absurd (e.symm.trans (cd_0 q).2) (i_nm1 (by omega))
    · rcases cd_word q with r | ⟨j, hj, r, hj2⟩
      · exact absurd (e.symm.trans r) (i_nm2 (by omega))
      · have := i_inj (by omega) (by omega) (e.symm.trans r)
        have : i = j := by omega
        rw [this]
        exact ⟨q, hj2⟩
    · obtain ⟨_, _, v, hv, r⟩ := cd_2 q
      have := i_inj (by omega) (by omega) (e.symm.trans r); omega
    · obtain ⟨_, hs, r⟩ := cd_3 q
      have h64 : b p < 64 := by unfold zSgn at hs; simp at hs; omega
      rw [show (11000 : Int32) = nI 11000 from rfl, nI_add] at r
      have := i_inj (by omega) (by omega) (e.symm.trans r); omega
    · exact absurd (e.symm.trans (cd_4 q)) (i_nm2 (by omega))
theorem zEn_w (h : zKi b m p = 1) : p ≤ zEn b m p ∧ zEn b m p ≤ m ∧ ∀ j, p ≤ j → j < zEn b m p → 97 ≤ b j := by
  obtain ⟨h1, h2, _⟩ := cd_1 h
  have hen : zEn b m p = zSkip zLtr b m (m - p) p := by unfold zEn; rw [if_pos h1, if_pos h2]
  have := zSkip_le (P := zLtr) (b := b) (m := m) (m - p) p
  rw [hen]
  refine ⟨this.1, this.2 (by omega), fun j h3 h4 => ?_⟩
  have := zSkip_all (P := zLtr) (m - p) p j h3 h4
  unfold zLtr at this
  rw [Bool.and_eq_true, decide_eq_true_eq, decide_eq_true_eq] at this
  exact this.1
theorem r_isWord (t : zTr J b m f) (g : zGr J b m p) (h28 : J.2 46 28 = 0) (hw : w.length ≤ 8) (hw2 : ∀ j, j < w.length → 0 < w.getD j 0 ∧ w.getD j 0 < 256) : F_X7_isWord (zLw w 0) (zLw w 1) (zLw w 2) (zLw w 3) (zLw w 4) (zLw w 5) (zLw w 6) (zLw w 7) J = some (zOne (zKi b m p = 1 ∧ zMt b p (zEn b m p) w), J) := by
  have hm := t.1.1
  obtain ⟨g25, g24, g23, g2, g3⟩ := g
  unfold F_X7_isWord
  rw [if_pos h28, g24]
  by_cases hk : zKi b m p = 1
  · obtain ⟨e1, e2, e3⟩ := zEn_w hk
    have g23 := g23 (by omega)
    rw [if_pos (by rw [hk]; rfl), g25, g23, show (8 : Int32) = nI 8 from rfl, nI_add]
    by_cases h8 : p + 8 < zEn b m p
    · rw [if_pos ((i_lts (by omega) (by omega)).2 h8), zOne_f (fun z => by have := z.2.1; omega)]
    · rw [if_neg (fun q => h8 ((i_lts (by omega) (by omega)).1 q))]
      have lt : ∀ j, j < 8 → F_X7_isLetter (nI j) (zLw w j) J = some (zOne (if p + j < zEn b m p then nI (b (p + j)) = zLw w j else zLw w j = 0), J) := fun j hj => r_isLet t g25 g23 e2 e1 hj (zLw w j)
      have no : ∀ j, j < 8 → ¬ (if p + j < zEn b m p then nI (b (p + j)) = zLw w j else zLw w j = 0) → zOne (zKi b m p = 1 ∧ zMt b p (zEn b m p) w) = 0 := by
        intro j hj hn
        refine zOne_f (fun z => hn ?_)
        obtain ⟨_, z1, z2⟩ := z
        unfold zLw
        by_cases hlt : p + j < zEn b m p
        · rw [if_pos hlt, if_pos (by omega), z2 j (by omega)]
        · rw [if_neg hlt, if_neg (by omega)]
      by_cases c0 : (if p + 0 < zEn b m p then nI (b (p + 0)) = zLw w 0 else zLw w 0 = 0)
      case neg => rw [show (0 : Int32) = nI 0 from rfl, lt 0 (by omega), Option.bind_some, zOne_f c0, no 0 (by omega) c0]; exact if_pos rfl
      rw [show (0 : Int32) = nI 0 from rfl, lt 0 (by omega), Option.bind_some, zOne_t c0]
      refine (if_neg n10).trans ?_
      dsimp only
      by_cases c1 : (if p + 1 < zEn b m p then nI (b (p + 1)) = zLw w 1 else zLw w 1 = 0)
      case neg => rw [show (1 : Int32) = nI 1 from rfl, lt 1 (by omega), Option.bind_some, zOne_f c1, no 1 (by omega) c1]; exact if_pos rfl
      rw [show (1 : Int32) = nI 1 from rfl, lt 1 (by omega), Option.bind_some, zOne_t c1]
      refine (if_neg n10).trans ?_
      dsimp only
      by_cases c2 : (if p + 2 < zEn b m p then nI (b (p + 2)) = zLw w 2 else zLw w 2 = 0)
      case neg => rw [show (2 : Int32) = nI 2 from rfl, lt 2 (by omega), Option.bind_some, zOne_f c2, no 2 (by omega) c2]; exact if_pos rfl
      rw [show (2 : Int32) = nI 2 from rfl, lt 2 (by omega), Option.bind_some, zOne_t c2]
      refine (if_neg n10).trans ?_
      dsimp only
      by_cases c3 : (if p + 3 < zEn b m p then nI (b (p + 3)) = zLw w 3 else zLw w 3 = 0)
      case neg => rw [show (3 : Int32) = nI 3 from rfl, lt 3 (by omega), Option.bind_some, zOne_f c3, no 3 (by omega) c3]; exact if_pos rfl
      rw [show (3 : Int32) = nI 3 from rfl, lt 3 (by omega), Option.bind_some, zOne_t c3]
      refine (if_neg n10).trans ?_
      dsimp only
      by_cases c4 : (if p + 4 < zEn b m p then nI (b (p + 4)) = zLw w 4 else zLw w 4 = 0)
      case neg => rw [show (4 : Int32) = nI 4 from rfl, lt 4 (by omega), Option.bind_some, zOne_f c4, no 4 (by omega) c4]; exact if_pos rfl
      rw [show (4 : Int32) = nI 4 from rfl, lt 4 (by omega), Option.bind_some, zOne_t c4]
      refine (if_neg n10).trans ?_
      dsimp only
      by_cases c5 : (if p + 5 < zEn b m p then nI (b (p + 5)) = zLw w 5 else zLw w 5 = 0)
      case neg => rw [show (5 : Int32) = nI 5 from rfl, lt 5 (by omega), Option.bind_some, zOne_f c5, no 5 (by omega) c5]; exact if_pos rfl
      rw [show (5 : Int32) = nI 5 from rfl, lt 5 (by omega), Option.bind_some, zOne_t c5]
      refine (if_neg n10).trans ?_
      dsimp only
      by_cases c6 : (if p + 6 < zEn b m p then nI (b (p + 6)) = zLw w 6 else zLw w 6 = 0)
      case neg => rw [show (6 : Int32) = nI 6 from rfl, lt 6 (by omega), Option.bind_some, zOne_f c6, no 6 (by omega) c6]; exact if_pos rfl
      rw [show (6 : Int32) = nI 6 from rfl, lt 6 (by omega), Option.bind_some, zOne_t c6]
      refine (if_neg n10).trans ?_
      dsimp only
      by_cases c7 : (if p + 7 < zEn b m p then nI (b (p + 7)) = zLw w 7 else zLw w 7 = 0)
      case neg => rw [show (7 : Int32) = nI 7 from rfl, lt 7 (by omega), Option.bind_some, zOne_f c7, no 7 (by omega) c7]; exact if_pos rfl
      rw [show (7 : Int32) = nI 7 from rfl, lt 7 (by omega), Option.bind_some, zOne_t c7]
      refine (if_neg n10).trans ?_
      dsimp only
      have all : ∀ j, j < 8 → (if p + j < zEn b m p then nI (b (p + j)) = zLw w j else zLw w j = 0) := by
        intro j hj
        have : j = 0 ∨ j = 1 ∨ j = 2 ∨ j = 3 ∨ j = 4 ∨ j = 5 ∨ j = 6 ∨ j = 7 := by omega
        rcases this with rfl | rfl | rfl | rfl | rfl | rfl | rfl | rfl <;> assumption
      have fin : zKi b m p = 1 ∧ zMt b p (zEn b m p) w := by
       refine ⟨hk, ?_, fun j hj => ?_⟩
       · rcases Nat.lt_trichotomy (p + w.length) (zEn b m p) with q | q | q
         · have := all w.length (by omega)
           rw [if_pos q] at this
           unfold zLw at this
           rw [if_neg (by omega)] at this
           have h97 := e3 (p + w.length) (by omega) q
           have h256 := t.2.2.2.2 (p + w.length)
           have := i_inj (k := b (p + w.length)) (m := 0) (by omega) (by omega) this
           omega
         · exact q.symm
         · have := all (zEn b m p - p) (by omega)
           rw [if_neg (by omega)] at this
           unfold zLw at this
           rw [if_pos (by omega)] at this
           have h0 := hw2 (zEn b m p - p) (by omega)
           have := i_inj (k := w.getD (zEn b m p - p) 0) (m := 0) (by omega) (by omega) this
           omega
       · by_cases hlt : p + j < zEn b m p
         · have := all j (by omega)
           rw [if_pos hlt] at this
           unfold zLw at this
           rw [if_pos hj] at this
           have h0 := hw2 j hj
           have h256 := t.2.2.2.2 (p + j)
           exact (i_inj (by omega) (by omega) this).symm
         · have := all j (by omega)
           rw [if_neg hlt] at this
           unfold zLw at this
           rw [if_pos hj] at this
           have h0 := hw2 j hj
           have := i_inj (k := w.getD j 0) (m := 0) (by omega) (by omega) this
           omega
      rw [zOne_t fin]
      rfl
  · rw [if_neg (show ¬ nI (zKi b m p) = (1 : Int32) from fun z => hk (i_inj (m := 1) (by have := ki_5 (b := b) (m := m) (p := p); omega) (by omega) z)), zOne_f (fun z => hk z.1)]
theorem r_isWi (t : zTr J b m f) (g : zGr J b m p) (h28 : J.2 46 28 = 0) (hi : i < 12) : F_X7_isWord (zLw (zzTx (i + 1)) 0) (zLw (zzTx (i + 1)) 1) (zLw (zzTx (i + 1)) 2) (zLw (zzTx (i + 1)) 3) (zLw (zzTx (i + 1)) 4) (zLw (zzTx (i + 1)) 5) (zLw (zzTx (i + 1)) 6) (zLw (zzTx (i + 1)) 7) J = some (zOne (zCd b m p = nI (10000 + i)), J) := by
  obtain ⟨h1, h2⟩ := tx_ok i hi
  rw [r_isWord t g h28 h1 (fun j hj => ⟨(h2 j (by omega)).1 hj, (h2 j (by omega)).2⟩)]
  congr 2
  unfold zOne
  by_cases h : zCd b m p = nI (10000 + i)
  · rw [if_pos h, if_pos ((cd_wi hi).2 h)]
  · rw [if_neg h, if_neg (fun z => h ((cd_wi hi).1 z))]
/-- a word is asked for where nothing was bad yet, or where it was -/
theorem r_bad {x1 x2 x3 x4 x5 x6 x7 x8 : Int32} (h28 : ¬ J.2 46 28 = 0) : F_X7_isWord x1 x2 x3 x4 x5 x6 x7 x8 J = some (0, J) := by
  unfold F_X7_isWord
  rw [if_neg h28]
theorem r_badS {c : Int32} (h28 : ¬ J.2 46 28 = 0) : F_X7_isSign c J = some (0, J) := by
  unfold F_X7_isSign
  rw [if_neg h28]
theorem w_row (t : zTr J b m f) (g : zGr J b m p) (h28 : J.2 46 28 = 0) : F_X7_isWord (114 : Int32) (111 : Int32) (119 : Int32) (0 : Int32) (0 : Int32) (0 : Int32) (0 : Int32) (0 : Int32) J = some (zOne (zCd b m p = 10000), J) := r_isWi (i := 0) t g h28 (by omega)
theorem w_column (t : zTr J b m f) (g : zGr J b m p) (h28 : J.2 46 28 = 0) : F_X7_isWord (99 : Int32) (111 : Int32) (108 : Int32) (117 : Int32) (109 : Int32) (110 : Int32) (0 : Int32) (0 : Int32) J = some (zOne (zCd b m p = 10001), J) := r_isWi (i := 1) t g h28 (by omega)
theorem w_mile (t : zTr J b m f) (g : zGr J b m p) (h28 : J.2 46 28 = 0) : F_X7_isWord (109 : Int32) (105 : Int32) (108 : Int32) (101 : Int32) (0 : Int32) (0 : Int32) (0 : Int32) (0 : Int32) J = some (zOne (zCd b m p = 10002), J) := r_isWi (i := 2) t g h28 (by omega)
theorem w_number (t : zTr J b m f) (g : zGr J b m p) (h28 : J.2 46 28 = 0) : F_X7_isWord (110 : Int32) (117 : Int32) (109 : Int32) (98 : Int32) (101 : Int32) (114 : Int32) (0 : Int32) (0 : Int32) J = some (zOne (zCd b m p = 10003), J) := r_isWi (i := 3) t g h28 (by omega)
theorem w_beside (t : zTr J b m f) (g : zGr J b m p) (h28 : J.2 46 28 = 0) : F_X7_isWord (98 : Int32) (101 : Int32) (115 : Int32) (105 : Int32) (100 : Int32) (101 : Int32) (0 : Int32) (0 : Int32) J = some (zOne (zCd b m p = 10004), J) := r_isWi (i := 4) t g h28 (by omega)
theorem w_friend (t : zTr J b m f) (g : zGr J b m p) (h28 : J.2 46 28 = 0) : F_X7_isWord (102 : Int32) (114 : Int32) (105 : Int32) (101 : Int32) (110 : Int32) (100 : Int32) (0 : Int32) (0 : Int32) J = some (zOne (zCd b m p = 10005), J) := r_isWi (i := 5) t g h28 (by omega)
theorem w_sounds (t : zTr J b m f) (g : zGr J b m p) (h28 : J.2 46 28 = 0) : F_X7_isWord (115 : Int32) (111 : Int32) (117 : Int32) (110 : Int32) (100 : Int32) (115 : Int32) (0 : Int32) (0 : Int32) J = some (zOne (zCd b m p = 10006), J) := r_isWi (i := 6) t g h28 (by omega)
theorem w_turns (t : zTr J b m f) (g : zGr J b m p) (h28 : J.2 46 28 = 0) : F_X7_isWord (116 : Int32) (117 : Int32) (114 : Int32) (110 : Int32) (115 : Int32) (0 : Int32) (0 : Int32) (0 : Int32) J = some (zOne (zCd b m p = 10007), J) := r_isWi (i := 7) t g h28 (by omega)
theorem w_joys (t : zTr J b m f) (g : zGr J b m p) (h28 : J.2 46 28 = 0) : F_X7_isWord (106 : Int32) (111 : Int32) (121 : Int32) (115 : Int32) (0 : Int32) (0 : Int32) (0 : Int32) (0 : Int32) J = some (zOne (zCd b m p = 10008), J) := r_isWi (i := 8) t g h28 (by omega)
theorem w_or (t : zTr J b m f) (g : zGr J b m p) (h28 : J.2 46 28 = 0) : F_X7_isWord (111 : Int32) (114 : Int32) (0 : Int32) (0 : Int32) (0 : Int32) (0 : Int32) (0 : Int32) (0 : Int32) J = some (zOne (zCd b m p = 10009), J) := r_isWi (i := 9) t g h28 (by omega)
theorem w_and (t : zTr J b m f) (g : zGr J b m p) (h28 : J.2 46 28 = 0) : F_X7_isWord (97 : Int32) (110 : Int32) (100 : Int32) (0 : Int32) (0 : Int32) (0 : Int32) (0 : Int32) (0 : Int32) J = some (zOne (zCd b m p = 10010), J) := r_isWi (i := 10) t g h28 (by omega)
theorem w_not (t : zTr J b m f) (g : zGr J b m p) (h28 : J.2 46 28 = 0) : F_X7_isWord (110 : Int32) (111 : Int32) (116 : Int32) (0 : Int32) (0 : Int32) (0 : Int32) (0 : Int32) (0 : Int32) J = some (zOne (zCd b m p = 10011), J) := r_isWi (i := 11) t g h28 (by omega)
end TW
