/-! text: the least level -/
section ON
variable {J J1 J2 : zzJ} {b : Nat → Nat} {m p q e f i j k x n r o c d : Nat} {v y z : Int32} {g : Bool}
theorem rs_s40 (h : zRS b m f g p o J) : F_X7_isSign (40 : Int32) J = some (zOne (zTk b m g p = 11040), J) := rs_sign (c := 40) h (by omega)
theorem rs_s41 (h : zRS b m f g p o J) : F_X7_isSign (41 : Int32) J = some (zOne (zTk b m g p = 11041), J) := rs_sign (c := 41) h (by omega)
theorem rs_s42 (h : zRS b m f g p o J) : F_X7_isSign (42 : Int32) J = some (zOne (zTk b m g p = 11042), J) := rs_sign (c := 42) h (by omega)
theorem rs_s43 (h : zRS b m f g p o J) : F_X7_isSign (43 : Int32) J = some (zOne (zTk b m g p = 11043), J) := rs_sign (c := 43) h (by omega)
theorem rs_s45 (h : zRS b m f g p o J) : F_X7_isSign (45 : Int32) J = some (zOne (zTk b m g p = 11045), J) := rs_sign (c := 45) h (by omega)
theorem rs_s59 (h : zRS b m f g p o J) : F_X7_isSign (59 : Int32) J = some (zOne (zTk b m g p = 11059), J) := rs_sign (c := 59) h (by omega)
theorem rs_s60 (h : zRS b m f g p o J) : F_X7_isSign (60 : Int32) J = some (zOne (zTk b m g p = 11060), J) := rs_sign (c := 60) h (by omega)
theorem rs_s61 (h : zRS b m f g p o J) : F_X7_isSign (61 : Int32) J = some (zOne (zTk b m g p = 11061), J) := rs_sign (c := 61) h (by omega)
theorem rs_row (h : zRS b m f g p o J) : F_X7_isWord (114 : Int32) (111 : Int32) (119 : Int32) (0 : Int32) (0 : Int32) (0 : Int32) (0 : Int32) (0 : Int32) J = some (zOne (zTk b m g p = 10000), J) := rs_word (i := 0) h (by omega)
theorem rs_column (h : zRS b m f g p o J) : F_X7_isWord (99 : Int32) (111 : Int32) (108 : Int32) (117 : Int32) (109 : Int32) (110 : Int32) (0 : Int32) (0 : Int32) J = some (zOne (zTk b m g p = 10001), J) := rs_word (i := 1) h (by omega)
theorem rs_mile (h : zRS b m f g p o J) : F_X7_isWord (109 : Int32) (105 : Int32) (108 : Int32) (101 : Int32) (0 : Int32) (0 : Int32) (0 : Int32) (0 : Int32) J = some (zOne (zTk b m g p = 10002), J) := rs_word (i := 2) h (by omega)
theorem rs_number (h : zRS b m f g p o J) : F_X7_isWord (110 : Int32) (117 : Int32) (109 : Int32) (98 : Int32) (101 : Int32) (114 : Int32) (0 : Int32) (0 : Int32) J = some (zOne (zTk b m g p = 10003), J) := rs_word (i := 3) h (by omega)
theorem rs_beside (h : zRS b m f g p o J) : F_X7_isWord (98 : Int32) (101 : Int32) (115 : Int32) (105 : Int32) (100 : Int32) (101 : Int32) (0 : Int32) (0 : Int32) J = some (zOne (zTk b m g p = 10004), J) := rs_word (i := 4) h (by omega)
theorem rs_friend (h : zRS b m f g p o J) : F_X7_isWord (102 : Int32) (114 : Int32) (105 : Int32) (101 : Int32) (110 : Int32) (100 : Int32) (0 : Int32) (0 : Int32) J = some (zOne (zTk b m g p = 10005), J) := rs_word (i := 5) h (by omega)
/-- a name's fact -/
theorem rs_name (h : zRS b m f g p o J) : F_X7_name J = if zTk b m g p = 10000 then some (J.2 46 15, J) else if zTk b m g p = 10001 then some (J.2 46 16, J) else if zTk b m g p = 10002 then some (J.2 46 17, J) else if zTk b m g p = 10003 then some (J.2 46 18, J) else if zTk b m g p = 10004 then some (J.2 46 19, J) else if zTk b m g p = 10005 then some (J.2 46 20, J) else Option.bind (F_X7_fail J) fun q => some ((0 : Int32), q) := by
  unfold F_X7_name
  rw [rs_row h, Option.bind_some]
  dsimp only
  by_cases h0 : zTk b m g p = 10000
  · rw [zOne_t h0, if_pos h0, if_neg n10]
  rw [zOne_f h0, if_neg h0, if_pos rfl, rs_column h, Option.bind_some]
  dsimp only
  by_cases h1 : zTk b m g p = 10001
  · rw [zOne_t h1, if_pos h1, if_neg n10]
  rw [zOne_f h1, if_neg h1, if_pos rfl, rs_mile h, Option.bind_some]
  dsimp only
  by_cases h2 : zTk b m g p = 10002
  · rw [zOne_t h2, if_pos h2, if_neg n10]
  rw [zOne_f h2, if_neg h2, if_pos rfl, rs_number h, Option.bind_some]
  dsimp only
  by_cases h3 : zTk b m g p = 10003
  · rw [zOne_t h3, if_pos h3, if_neg n10]
  rw [zOne_f h3, if_neg h3, if_pos rfl, rs_beside h, Option.bind_some]
  dsimp only
  by_cases h4 : zTk b m g p = 10004
  · rw [zOne_t h4, if_pos h4, if_neg n10]
  rw [zOne_f h4, if_neg h4, if_pos rfl, rs_friend h, Option.bind_some]
  dsimp only
  by_cases h5 : zTk b m g p = 10005
  · rw [zOne_t h5, if_pos h5, if_neg n10]
  rw [zOne_f h5, if_neg h5, if_pos rfl]
theorem rs_28c (h : zRS b m f g p o J) : J.2 46 28 = 1 ∨ (J.2 46 28 = 0 ∧ zGr J b m p) := by
  cases g
  · obtain ⟨t, d⟩ := rs_f h
    rcases d with d | d
    · exact Or.inl d.1
    · exact Or.inr ⟨d.1, d.2.1⟩
  · obtain ⟨t, d, _, _, d2⟩ := rs_t h
    exact Or.inr ⟨d2, d⟩
/-- a token's number says what kind it is of -/
theorem cd_cases : (zKi b m p = 0 ∧ zCd b m p = -1) ∨ (zKi b m p = 1 ∧ p < m ∧ (zCd b m p = -2 ∨ ∃ j, j < 12 ∧ zCd b m p = nI (10000 + j))) ∨ (zKi b m p = 2 ∧ p < m ∧ zCd b m p = zNv b p (zEn b m p - p) ∧ ∃ v, v < 10000 ∧ zCd b m p = nI v) ∨ (zKi b m p = 3 ∧ p < m ∧ b p < 64 ∧ zCd b m p = nI (11000 + b p)) ∨ (zKi b m p = 4 ∧ zCd b m p = -2) := by
  have h5 := ki_5 (b := b) (m := m) (p := p)
  have : zKi b m p = 0 ∨ zKi b m p = 1 ∨ zKi b m p = 2 ∨ zKi b m p = 3 ∨ zKi b m p = 4 := by omega
  rcases this with h | h | h | h | h
  · exact Or.inl ⟨h, (cd_0 h).2⟩
  · refine Or.inr (Or.inl ⟨h, (cd_1 h).1, ?_⟩)
    rcases cd_word h with q | ⟨j, hj, q, _⟩
    · exact Or.inl q
    · exact Or.inr ⟨j, hj, q⟩
  · obtain ⟨h1, h2, h3⟩ := cd_2 h
    exact Or.inr (Or.inr (Or.inl ⟨h, h1, h2, h3⟩))
  · obtain ⟨h1, h2, h3⟩ := cd_3 h
    refine Or.inr (Or.inr (Or.inr (Or.inl ⟨h, h1, ?_, by rw [h3, show (11000 : Int32) = nI 11000 from rfl, nI_add]⟩)))
    unfold zSgn at h2
    simp at h2
    omega
  · exact Or.inr (Or.inr (Or.inr (Or.inr ⟨h, cd_4 h⟩)))
theorem i_ge {a : Nat} (h : x < 2147483648) (ha : a < 2147483648) : nI x < nI a ↔ x < a := by rw [i_lt, i_nI h, i_nI ha]; omega
variable {k1 k2 k3 : Int32 → zzJ → Option zzJ} {j1 j2 j3 : zzJ → Option (Int32 × zzJ)}
/-- no atom -/
theorem atom_no (h : zRS b m f g p o J) (h45 : ¬ zTk b m g p = 11045) (h40 : ¬ zTk b m g p = 11040) (hx : zTk b m g p < 0 ∨ 10005 < zTk b m g p) : ∃ J1, F_X7_atom j1 j2 j3 J = some (0, J1) ∧ zFrM J J1 ∧ zRS b m f false p o J1 := by
  obtain ⟨J1, e1, f1, s1, d1⟩ := rs_fail (x := o) h
  refine ⟨J1, ?_, f1, s1⟩
  unfold F_X7_atom
  rw [rs_s45 h, Option.bind_some]
  dsimp only
  rw [zOne_f h45, if_pos rfl, rs_s40 h, Option.bind_some]
  dsimp only
  rw [zOne_f h40, if_pos rfl]
  have h123 : J.2 46 24 ≠ 2 → F_X7_atom_123 j1 j2 j3 (0 : Int32) J = some (0, J1) := by
    intro _
    unfold F_X7_atom_123
    rw [e1]
    have nn : ∀ i, i ≤ 10005 → ¬ zTk b m g p = nI i := by
      intro i hi e
      rw [e] at hx
      rcases hx with hx | hx
      · have := (i_ge (a := 0) (by omega) (by omega)).1 hx; omega
      · have := (i_ge (x := 10005) (by omega) (by omega)).1 hx; omega
    rw [rs_name h, if_neg (show ¬ zTk b m g p = (10000 : Int32) from nn 10000 (by omega)), if_neg (show ¬ zTk b m g p = (10001 : Int32) from nn 10001 (by omega)), if_neg (show ¬ zTk b m g p = (10002 : Int32) from nn 10002 (by omega)), if_neg (show ¬ zTk b m g p = (10003 : Int32) from nn 10003 (by omega)), if_neg (show ¬ zTk b m g p = (10004 : Int32) from nn 10004 (by omega)), if_neg (show ¬ zTk b m g p = (10005 : Int32) from nn 10005 (by omega)), e1, Option.bind_some, Option.bind_some]
    dsimp only
    rw [d1, if_neg n10, ite_self, ite_self]
  rcases rs_28c h with d | ⟨d, d2⟩
  · rw [if_neg (by rw [d]; exact n10)]
    unfold F_X7_atom_123
    rw [if_neg (by rw [d]; exact n10), e1, Option.bind_some]
  · have n2 : ¬ J.2 46 24 = (2 : Int32) := by
      rw [d2.2.1]
      intro q
      have hk : zKi b m p = 2 := i_inj (m := 2) (by have := ki_5 (b := b) (m := m) (p := p); omega) (by omega) q
      obtain ⟨_, _, v, hv, e⟩ := cd_2 hk
      cases g
      · obtain ⟨t, d⟩ := rs_f h
        rcases d with d3 | d3
        · rw [d3.1] at d; exact n10 d
        · exact i_nm2 (k := v) (by omega) (e.symm.trans d3.2.2)
      · rw [tk_t, e] at hx
        rcases hx with hx | hx
        · have := (i_ge (a := 0) (by omega) (by omega)).1 hx; omega
        · have := (i_ge (x := 10005) (by omega) (by omega)).1 hx; omega
    rw [if_pos d, if_neg n2, h123 n2]
/-- a number, a name: what it says -/
theorem atom_yes (hx : ¬ (zTk b m g p < 0 ∨ 10005 < zTk b m g p)) : g = true ∧ p < m ∧ ∃ den : (Nat → Int32) → Int32, zCg den ∧ (∀ (c : Nat → Int32) (a : Nat), c a = zCd b m p → zSeg c a (a + 1) den) ∧ ∀ (J : zzJ) (f o : Nat), zRS b m f true p o J → F_X7_atom j1 j2 j3 J = Option.bind (F_X7_next J) fun q => some (den (fun k => J.2 46 (15 + k)), q) := by
  cases g
  · exact absurd (Or.inl (by rw [tk_f]; decide)) hx
  rw [tk_t] at hx
  have n45 : ∀ i, i ≤ 10005 → zCd b m p = nI i → ¬ zTk b m true p = 11045 ∧ ¬ zTk b m true p = 11040 := by
    intro i hi e
    rw [tk_t, e]
    exact ⟨fun q => by have := i_inj (k := i) (m := 11045) (by omega) (by omega) q; omega, fun q => by have := i_inj (k := i) (m := 11040) (by omega) (by omega) q; omega⟩
  rcases cd_cases (b := b) (m := m) (p := p) with ⟨hk, e⟩ | ⟨hk, hlt, e | ⟨j, hj, e⟩⟩ | ⟨hk, hlt, e, v, hv, e2⟩ | ⟨hk, hlt, hb, e⟩ | ⟨hk, e⟩
  · exact absurd (Or.inl (by rw [e]; decide)) hx
  · exact absurd (Or.inl (by rw [e]; decide)) hx
  · have hj6 : j < 6 := by
      rcases Nat.lt_or_ge j 6 with q | q
      · exact q
      · exact absurd (Or.inr (by rw [e]; exact (i_ge (x := 10005) (by omega) (by omega)).2 (by omega))) hx
    refine ⟨rfl, hlt, fun f => f j, fun f f' q => q j hj6, fun c a h => seg_name hj6 (h.trans e), fun J f o h => ?_⟩
    obtain ⟨t, gr, _, _, d⟩ := rs_t h
    obtain ⟨z1, z2⟩ := n45 _ (by omega) e
    unfold F_X7_atom
    rw [rs_s45 h, Option.bind_some]
    dsimp only
    rw [zOne_f z1, if_pos rfl, rs_s40 h, Option.bind_some]
    dsimp only
    rw [zOne_f z2, if_pos rfl, if_pos d, if_neg (by rw [gr.2.1, hk]; decide)]
    unfold F_X7_atom_123
    rw [if_pos d, if_pos (by rw [gr.2.1, hk]; rfl), rs_name h, tk_t, e]
    have : j = 0 ∨ j = 1 ∨ j = 2 ∨ j = 3 ∨ j = 4 ∨ j = 5 := by omega
    rcases this with rfl | rfl | rfl | rfl | rfl | rfl
    · rw [if_pos (show nI (10000 + 0) = (10000 : Int32) from rfl), Option.bind_some]; exact if_pos d
    · rw [if_neg (show ¬ nI (10000 + 1) = (10000 : Int32) by decide), if_pos (show nI (10000 + 1) = (10001 : Int32) from rfl), Option.bind_some]; exact if_pos d
    · rw [if_neg (show ¬ nI (10000 + 2) = (10000 : Int32) by decide), if_neg (show ¬ nI (10000 + 2) = (10001 : Int32) by decide), if_pos (show nI (10000 + 2) = (10002 : Int32) from rfl), Option.bind_some]; exact if_pos d
    · rw [if_neg (show ¬ nI (10000 + 3) = (10000 : Int32) by decide), if_neg (show ¬ nI (10000 + 3) = (10001 : Int32) by decide), if_neg (show ¬ nI (10000 + 3) = (10002 : Int32) by decide), if_pos (show nI (10000 + 3) = (10003 : Int32) from rfl), Option.bind_some]; exact if_pos d
    · rw [if_neg (show ¬ nI (10000 + 4) = (10000 : Int32) by decide), if_neg (show ¬ nI (10000 + 4) = (10001 : Int32) by decide), if_neg (show ¬ nI (10000 + 4) = (10002 : Int32) by decide), if_neg (show ¬ nI (10000 + 4) = (10003 : Int32) by decide), if_pos (show nI (10000 + 4) = (10004 : Int32) from rfl), Option.bind_some]; exact if_pos d
    · rw [if_neg (show ¬ nI (10000 + 5) = (10000 : Int32) by decide), if_neg (show ¬ nI (10000 + 5) = (10001 : Int32) by decide), if_neg (show ¬ nI (10000 + 5) = (10002 : Int32) by decide), if_neg (show ¬ nI (10000 + 5) = (10003 : Int32) by decide), if_neg (show ¬ nI (10000 + 5) = (10004 : Int32) by decide), if_pos (show nI (10000 + 5) = (10005 : Int32) from rfl), Option.bind_some]; exact if_pos d
  · refine ⟨rfl, hlt, fun _ => nI v, fun _ _ _ => rfl, fun c a h => seg_num hv (h.trans e2), fun J f o h => ?_⟩
    obtain ⟨t, gr, _, _, d⟩ := rs_t h
    obtain ⟨z1, z2⟩ := n45 _ (by omega) e2
    unfold F_X7_atom
    rw [rs_s45 h, Option.bind_some]
    dsimp only
    rw [zOne_f z1, if_pos rfl, rs_s40 h, Option.bind_some]
    dsimp only
    rw [zOne_f z2, if_pos rfl, if_pos d, if_pos (by rw [gr.2.1, hk]; rfl), gr.2.2.2.1 hk, ← e, e2]
  · exact absurd (Or.inr (by rw [e]; exact (i_ge (x := 10005) (by omega) (by omega)).2 (by omega))) hx
  · exact absurd (Or.inl (by rw [e]; decide)) hx
theorem zCg.ne {d2 : (Nat → Int32) → Int32} (h : zCg d2) : zCg (fun f => -(d2 f)) := fun f f' q => by dsimp only; rw [h f f' q]
theorem l_one (ho : o ≤ 5) (h1 : o < 5 → zLvl b m (k1 (nI (o + 1))) j3 (o + 1)) (h3 : o < 5 → zLvl b m (k3 (nI (o + 1))) j1 (o + 1)) : zLvl b m (F_X2_readOne k1 k2 k3 (nI o)) (F_X7_atom j1 j2 j3) o := by
  intro g p hp
  by_cases hA : zTk b m g p = 11045
  · obtain ⟨rfl, hA2⟩ := tk_is hA (by decide)
    have hlt := cd_lt (b := b) (m := m) (p := p) (by rw [hA2]; decide)
    have hnt := zNt_lt (b := b) hlt
    have hnm := (zNt_le (b := b) hp).2
    have eC : ∀ (J : zzJ) (n r : Nat), zCS b m true p n r J → F_X2_readOne k1 k2 k3 (nI o) J = Option.bind (F_X2_opens (nI o) J) fun q => if q.1 = 0 then some q.2 else Option.bind (k3 (nI (o + 1)) q.2) fun q2 => F_X5_add 10012 q2 := by
      intro J n r h
      unfold F_X2_readOne F_X2_readOne_35
      rw [cs_tk h, hA, if_neg (by decide), if_pos (by decide), if_pos rfl, nI_1]
      simp only [opt_id]
    have eR : ∀ (J : zzJ) (f : Nat), zRS b m f true p o J → F_X7_atom j1 j2 j3 J = Option.bind (F_X7_opens J) fun q => if q.1 = 0 then some (0, q.2) else Option.bind (j1 q.2) fun q2 => some (-q2.1, wI q2.2 46 27 (q2.2.2 46 27 - 1)) := by
      intro J f h
      unfold F_X7_atom
      rw [rs_s45 h, Option.bind_some]
      dsimp only
      rw [zOne_t hA, if_neg n10]
    by_cases h5 : o < 5
    · obtain ⟨g2, p2, d2, a1, a2, a3, a4, aC, aR⟩ := h3 h5 (zOkT b m (zNt b m p)) (zNt b m p) hnm
      refine ⟨g2, p2, fun f => -(d2 f), by omega, a2, fun q => absurd q (by decide), a4.ne, fun J n r s hr => ?_, fun J f s => ?_⟩
      · obtain ⟨J1, e1, f1, s1⟩ := cs_opens s hp h5
        obtain ⟨J2, r2, e2, f2, s2, c1, c2, c3⟩ := aC J1 n r s1 (by omega)
        obtain ⟨J3, e3, f3, s3, w3⟩ := cs_add (v := 10012) s2 (by omega)
        refine ⟨J3, r2 + 1, ?_, (f1.tr (Nat.le_refl r) f2).tr c1 f3, s3, by omega, by omega, fun q => ⟨by omega, seg_neg ((c3 q).2.of fun k _ hk => f3.2.2.2.2 k hk) (c3 q).1 (w3 q)⟩⟩
        rw [eC J n r s, e1, Option.bind_some]
        dsimp only
        rw [if_neg n10, e2, Option.bind_some, e3]
      · obtain ⟨J1, e1, f1, s1⟩ := rs_opens s hp h5
        obtain ⟨v2, J2, e2, f2, s2, c2⟩ := aR J1 f s1
        obtain ⟨J3, e3, f3, s3⟩ := rs_less s2
        refine ⟨-v2, J3, ?_, (f1.tr f2).tr f3, s3, fun q => ?_⟩
        · rw [eR J f s, e1, Option.bind_some]
          dsimp only
          rw [if_neg n10, e2, Option.bind_some, ← e3]
        · rw [c2 q, a4 _ _ (fm_facts f1)]
    · obtain rfl : o = 5 := by omega
      refine ⟨false, p, fun _ => 0, Nat.le_refl p, hp, fun q => absurd q (by decide), fun _ _ _ => rfl, fun J n r s hr => ?_, fun J f s => ?_⟩
      · obtain ⟨J1, e1, f1, s1⟩ := cs_opens5 s hp
        refine ⟨J1, r, ?_, f1, s1, Nat.le_refl r, Nat.le_refl _, fun q => absurd q (by decide)⟩
        rw [eC J n r s, e1, Option.bind_some]
        exact if_pos rfl
      · obtain ⟨J1, e1, f1, s1⟩ := rs_opens5 (x := 5) s
        refine ⟨0, J1, ?_, f1, s1, fun q => absurd q (by decide)⟩
        rw [eR J f s, e1, Option.bind_some]
        exact if_pos rfl
  by_cases hB : zTk b m g p = 11040
  · obtain ⟨rfl, hB2⟩ := tk_is hB (by decide)
    have hlt := cd_lt (b := b) (m := m) (p := p) (by rw [hB2]; decide)
    have hnt := zNt_lt (b := b) hlt
    have hnm := (zNt_le (b := b) hp).2
    have eC : ∀ (J : zzJ) (n r : Nat), zCS b m true p n r J → F_X2_readOne k1 k2 k3 (nI o) J = Option.bind (F_X2_opens (nI o) J) fun q => if q.1 = 0 then some q.2 else Option.bind (k1 (nI (o + 1)) q.2) fun q2 => F_X2_expect 11041 q2 := by
      intro J n r h
      unfold F_X2_readOne F_X2_readOne_35
      rw [cs_tk h, hB, if_neg (by decide), if_pos (by decide), if_neg (by decide), if_pos rfl, nI_1]
      simp only [opt_id]
    have eR : ∀ (J : zzJ) (f : Nat), zRS b m f true p o J → F_X7_atom j1 j2 j3 J = Option.bind (F_X7_opens J) fun q => if q.1 = 0 then some (0, q.2) else Option.bind (j3 q.2) fun q2 => Option.bind (F_X7_isSign 41 q2.2) fun q3 => if q3.1 = 0 then (Option.bind (F_X7_fail q3.2) fun q4 => F_X7_atom_71 j1 j2 j3 q2.1 q4) else F_X7_atom_71 j1 j2 j3 q2.1 q3.2 := by
      intro J f h
      unfold F_X7_atom
      rw [rs_s45 h, Option.bind_some]
      dsimp only
      rw [zOne_f hA, if_pos rfl, rs_s40 h, Option.bind_some]
      dsimp only
      rw [zOne_t hB, if_neg n10]
    by_cases h5 : o < 5
    · obtain ⟨g2, p2, d2, a1, a2, a3, a4, aC, aR⟩ := h1 h5 (zOkT b m (zNt b m p)) (zNt b m p) hnm
      by_cases hE : zTk b m g2 p2 = 11041
      · obtain ⟨rfl, hE2⟩ := tk_is hE (by decide)
        have hn2 := zNt_le (b := b) a2
        refine ⟨zOkT b m (zNt b m p2), zNt b m p2, d2, by omega, hn2.2, fun q => absurd q (by decide), a4, fun J n r s hr => ?_, fun J f s => ?_⟩
        · obtain ⟨J1, e1, f1, s1⟩ := cs_opens s hp h5
          obtain ⟨J2, r2, e2, f2, s2, c1, c2, c3⟩ := aC J1 n r s1 (by omega)
          obtain ⟨J3, e3, f3, s3, _⟩ := cs_expect (c := 11041) s2 a2 (by omega)
          refine ⟨J3, r2, ?_, (f1.tr (Nat.le_refl r) f2).tr c1 f3, s3 hE, by omega, by omega, fun q => ⟨(c3 rfl).1, (c3 rfl).2.of fun k _ hk => f3.2.2.2.2 k hk⟩⟩
          rw [eC J n r s, e1, Option.bind_some]
          dsimp only
          rw [if_neg n10, e2, Option.bind_some]
          exact e3
        · obtain ⟨J1, e1, f1, s1⟩ := rs_opens s hp h5
          obtain ⟨v2, J2, e2, f2, s2, c2⟩ := aR J1 f s1
          obtain ⟨J3, e3, f3, s3⟩ := rs_less s2
          obtain ⟨J4, e4, f4, s4⟩ := rs_next s3 a2
          refine ⟨v2, J4, ?_, ((f1.tr f2).tr f3).tr f4, s4, fun q => ?_⟩
          · rw [eR J f s, e1, Option.bind_some]
            dsimp only
            rw [if_neg n10, e2, Option.bind_some]
            dsimp only
            rw [rs_s41 s2, Option.bind_some]
            dsimp only
            rw [zOne_t hE, if_neg n10]
            unfold F_X7_atom_71
            rw [e3, if_pos (rs_28 s3 rfl), e4, Option.bind_some]
          · rw [c2 rfl, a4 _ _ (fm_facts f1)]
      · refine ⟨false, p2, d2, by omega, a2, fun q => absurd q (by decide), a4, fun J n r s hr => ?_, fun J f s => ?_⟩
        · obtain ⟨J1, e1, f1, s1⟩ := cs_opens s hp h5
          obtain ⟨J2, r2, e2, f2, s2, c1, c2, c3⟩ := aC J1 n r s1 (by omega)
          obtain ⟨J3, e3, f3, _, s3⟩ := cs_expect (c := 11041) s2 a2 (by omega)
          refine ⟨J3, r2, ?_, (f1.tr (Nat.le_refl r) f2).tr c1 f3, s3 hE, by omega, by omega, fun q => absurd q (by decide)⟩
          rw [eC J n r s, e1, Option.bind_some]
          dsimp only
          rw [if_neg n10, e2, Option.bind_some]
          exact e3
        · obtain ⟨J1, e1, f1, s1⟩ := rs_opens s hp h5
          obtain ⟨v2, J2, e2, f2, s2, c2⟩ := aR J1 f s1
          obtain ⟨J3, e3, f3, s3, d3⟩ := rs_fail (x := o + 1) s2
          obtain ⟨J4, e4, f4, s4⟩ := rs_less s3
          refine ⟨v2, J4, ?_, ((f1.tr f2).tr f3).tr f4, s4, fun q => absurd q (by decide)⟩
          rw [eR J f s, e1, Option.bind_some]
          dsimp only
          rw [if_neg n10, e2, Option.bind_some]
          dsimp only
          rw [rs_s41 s2, Option.bind_some]
          dsimp only
          rw [zOne_f hE, if_pos rfl, e3, Option.bind_some]
          unfold F_X7_atom_71
          have d4 : J4.2 46 28 = 1 := by rw [← e4, wI_g, if_neg (by omega)]; exact d3
          rw [e4, if_neg (by rw [d4]; exact n10)]
    · obtain rfl : o = 5 := by omega
      refine ⟨false, p, fun _ => 0, Nat.le_refl p, hp, fun q => absurd q (by decide), fun _ _ _ => rfl, fun J n r s hr => ?_, fun J f s => ?_⟩
      · obtain ⟨J1, e1, f1, s1⟩ := cs_opens5 s hp
        refine ⟨J1, r, ?_, f1, s1, Nat.le_refl r, Nat.le_refl _, fun q => absurd q (by decide)⟩
        rw [eC J n r s, e1, Option.bind_some]
        exact if_pos rfl
      · obtain ⟨J1, e1, f1, s1⟩ := rs_opens5 (x := 5) s
        refine ⟨0, J1, ?_, f1, s1, fun q => absurd q (by decide)⟩
        rw [eR J f s, e1, Option.bind_some]
        exact if_pos rfl
  by_cases hx : zTk b m g p < 0 ∨ 10005 < zTk b m g p
  · refine ⟨false, p, fun _ => 0, Nat.le_refl p, hp, fun q => ⟨rfl, rfl⟩, fun _ _ _ => rfl, fun J n r s hr => ?_, fun J f s => ?_⟩
    · obtain ⟨J1, e1, f1, s1⟩ := cs_fail s hp
      refine ⟨J1, r, ?_, f1, s1, Nat.le_refl r, Nat.le_refl _, fun q => absurd q (by decide)⟩
      have e35 : F_X2_readOne_35 k1 k2 k3 (nI o) J = some J1 := by
        unfold F_X2_readOne_35
        rw [cs_tk s, if_neg hA, if_neg hB, e1, Option.bind_some]
      unfold F_X2_readOne
      rw [cs_tk s, e35]
      rcases hx with hx | hx
      · rw [if_pos hx]
      · rw [if_pos hx, ite_self]
    · obtain ⟨J1, e1, f1, s1⟩ := atom_no (j1 := j1) (j2 := j2) (j3 := j3) s hA hB hx
      exact ⟨0, J1, e1, f1, s1, fun q => absurd q (by decide)⟩
  · obtain ⟨rfl, hlt, den, hc, hs, hR⟩ := atom_yes (j1 := j1) (j2 := j2) (j3 := j3) hx
    have hnt := zNt_lt (b := b) hlt
    have hnm := (zNt_le (b := b) hp).2
    refine ⟨zOkT b m (zNt b m p), zNt b m p, den, by omega, hnm, fun q => absurd q (by decide), hc, fun J n r s hr => ?_, fun J f s => ?_⟩
    · obtain ⟨J1, e1, f1, s1, w1⟩ := cs_add (v := zCd b m p) s (by omega)
      obtain ⟨J2, e2, f2, s2⟩ := cs_adv s1 hp
      refine ⟨J2, r + 1, ?_, f1.tr (by omega) f2, s2, by omega, by omega, fun q => ⟨by omega, hs _ _ ((f2.2.2.2.2 r (by omega)).trans (w1 rfl))⟩⟩
      unfold F_X2_readOne
      rw [cs_tk s, if_neg (fun q => hx (Or.inl q)), if_neg (fun q => hx (Or.inr q)), tk_t, e1, Option.bind_some, e2, Option.bind_some]
    · obtain ⟨J1, e1, f1, s1⟩ := rs_next s hp
      refine ⟨_, J1, ?_, f1, s1, fun _ => rfl⟩
      rw [hR J f o s, e1, Option.bind_some]
end ON
