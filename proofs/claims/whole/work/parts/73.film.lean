/-! film -/
section FI
variable {L : Nat} {xs : Nat → Int32} {E : zEv2} {s t n z : Nat} {J J1 J2 : zzJ} {w w' : zVw} {x y v q : Int32} {a r i : Nat}
theorem inv_G (I : zInv L xs E s t n z J) (h1 : ∀ b k, (b ≠ 46 ∨ k ≠ 26) → J2.1 b k = J.1 b k) (h : ∀ b, (b < 4 ∨ (4 < b ∧ b < 13) ∨ (20 < b ∧ b < 27) ∨ (36 < b ∧ b < 38) ∨ (46 < b ∧ b < 53) ∨ (58 < b ∧ b < 62) ∨ 65 < b) → J2.2 b = J.2 b) (h46 : ∀ k, (k < 15 ∨ 39 < k) → J2.2 46 k = J.2 46 k) (ti : zTieV J2 (zW 7 J) s) (S : ∀ i, i < 4 → zIS J2 i) : zInv L xs E s t n z J2 := by
  obtain ⟨a, b, c, d, e, f⟩ := I
  exact ⟨⟨by rw [h1 2000 0 (by omega)]; exact a.1, by rw [h 2000 (by omega)]; exact a.2⟩, iB_c (fun b x y => h b (by omega)) ti b, iT_c (h _ (by omega)) (h _ (by omega)) (h _ (by omega)) (h46 3 (by omega)) (h _ (by omega)) (h _ (by omega)) c, iP_c (h _ (by omega)) (h _ (by omega)) (h46 6 (by omega)) (h _ (by omega)) d, iK_c (h _ (by omega)) (h _ (by omega)) (fun b _ _ => h b (by omega)) (fun b _ _ => h b (by omega)) (fun k _ => h46 k (by omega)) e, S⟩
theorem zBnd_b {v lo hi : Int32} (h : lo.toInt ≤ hi.toInt) : lo.toInt ≤ (zBnd v lo hi).toInt ∧ (zBnd v lo hi).toInt ≤ hi.toInt := by
  unfold zBnd
  by_cases h1 : v < lo
  · rw [if_pos h1]; omega
  · rw [if_neg h1]
    by_cases h2 : hi < v
    · rw [if_pos h2]; omega
    · rw [if_neg h2]
      rw [i_lt] at h1 h2
      omega
theorem zNoise_b (x : Int32) : 0 ≤ (zNoise E w t x).toInt ∧ (zNoise E w t x).toInt ≤ 999 := by
  unfold zNoise
  split
  · decide
  · exact zBnd_b (by decide)
theorem t_film {J0 : zzJ} (hi : i < 4) (h0 : J0.2 (38 + 2 * i) 0 = 1) (hs : s ≤ 8) (h4 : J0.2 7 4 = nI s) (ht : J0.2 7 3 = nI t) (htn : t < n) (hC : zTxC E n (J0.2 2) (J0.2 3)) : ∃ J2, F_X6_film_27 4096 (38 + 2 * i) 0 J0 = some (nI s, J2) ∧ J2.1 = J0.1 ∧ (∀ b, b ≠ 4 → b ≠ 13 → b ≠ 39 + 2 * i → J2.2 b = J0.2 b) ∧ ∀ j, j < s → J2.2 (39 + 2 * i) j = zNoise E (zW 7 J0) t (nI j) := by
  refine zLoop (G := fun f (a : Nat × zzJ) => F_X6_film_27 f (38 + 2 * i) (nI a.1) a.2) (P := fun k a => a.1 = k ∧ a.2.1 = J0.1 ∧ (∀ b, b ≠ 4 → b ≠ 13 → b ≠ 39 + 2 * i → a.2.2 b = J0.2 b) ∧ ∀ j, j < k → a.2.2 (39 + 2 * i) j = zNoise E (zW 7 J0) t (nI j)) (Q := fun r => ∃ J2, r = some (nI s, J2) ∧ J2.1 = J0.1 ∧ (∀ b, b ≠ 4 → b ≠ 13 → b ≠ 39 + 2 * i → J2.2 b = J0.2 b) ∧ ∀ j, j < s → J2.2 (39 + 2 * i) j = zNoise E (zW 7 J0) t (nI j)) (s := s) ?_ s 0 (0, J0) (by omega) ⟨rfl, rfl, fun _ _ _ _ => rfl, fun j hj => absurd hj (by omega)⟩ 4096 (by omega)
  rintro k ⟨k2, J'⟩ hk ⟨rfl, a, b, c⟩
  dsimp only at hk a b c ⊢
  have hm : J'.2 7 4 = nI s := by rw [b 7 (by omega) (by omega) (by omega)]; exact h4
  by_cases h : k2 < s
  · right
    obtain ⟨J3, e3, s3⟩ := cw_noise (x := nI k2) (J := J') zC7 (by rw [b 2 (by omega) (by omega) (by omega), b 3 (by omega) (by omega) (by omega)]; exact hC) (by rw [b 7 (by omega) (by omega) (by omega)]; exact ht) htn
    have v1 : zVe (zW 7 J0) (zW 7 J') := veW (fun b' _ _ => b b' (by omega) (by omega) (by omega)) zVe.rf
    rw [zVe_noise v1] at e3
    have hb := zNoise_b (E := E) (w := zW 7 J0) (t := t) (nI k2)
    have hw := b_write (J := J3) (v := zNoise E (zW 7 J0) t (nI k2)) (d := 1) (k := k2) hi (by omega) (by rw [s3.2 _ (by omega) (by omega), b _ (by omega) (by omega) (by omega)]; exact h0) (by omega)
    have hcast : zCast 1 (zNoise E (zW 7 J0) t (nI k2)) = zNoise E (zW 7 J0) t (nI k2) := fb_short (by omega) (by omega)
    rw [hcast] at hw
    refine ⟨h, (k2 + 1, wI J3 (39 + 2 * i) k2 (zNoise E (zW 7 J0) t (nI k2))), ⟨rfl, s3.1.trans a, fun b' h1 h2 h3 => by dsimp only; rw [wI_ne h3, s3.2 b' h1 h2]; exact b b' h1 h2 h3, fun j hj => ?_⟩, fun f => ?_⟩
    · dsimp only
      rw [wI_g]
      by_cases hj2 : j = k2
      · rw [if_pos hj2, hj2]
      · rw [if_neg hj2, s3.2 _ (by omega) (by omega)]
        exact c j (by omega)
    · rw [F_X6_film_27, hm, if_pos ((i_lts (by omega) (by omega)).2 h), e3, Option.bind_some, if_pos (sh_k hi).1, hw, Option.bind_some, ← nI_succ]
  · left
    obtain rfl : k2 = s := by omega
    refine ⟨_, ⟨J', rfl, a, b, c⟩, fun f => ?_⟩
    rw [F_X6_film_27, hm, if_neg (fun e => h ((i_lts (by omega) (by omega)).1 e))]
theorem m_film {J0 : zzJ} (hi : i < 4) (g : zGoodV w s) (ti : zTieV J0 w s) (ht : w 0 3 = nI t) (htn : t < n) (hR : zTxR E n (J0.2 47) (J0.2 48)) : ∃ J2, F_X7_film_23 4096 (nI i) 0 J0 = some (nI s, J2) ∧ (∀ b k, (b ≠ 46 ∨ k ≠ 26) → J2.1 b k = J0.1 b k) ∧ (∀ b, b ≠ 46 → b ≠ 65 → J2.2 b = J0.2 b) ∧ (∀ k, (k < 15 ∨ 29 < k) → J2.2 46 k = J0.2 46 k) ∧ ∀ q, J2.2 65 q = if 40 * i ≤ q ∧ q < 40 * i + s then zNoise E w t (nI (q - 40 * i)) else J0.2 65 q := by
  have h8 := g.1
  refine zLoop (G := fun f (a : Nat × zzJ) => F_X7_film_23 f (nI i) (nI a.1) a.2) (P := fun k a => a.1 = k ∧ (∀ b k, (b ≠ 46 ∨ k ≠ 26) → a.2.1 b k = J0.1 b k) ∧ (∀ b, b ≠ 46 → b ≠ 65 → a.2.2 b = J0.2 b) ∧ (∀ k, (k < 15 ∨ 29 < k) → a.2.2 46 k = J0.2 46 k) ∧ ∀ q, a.2.2 65 q = if 40 * i ≤ q ∧ q < 40 * i + k then zNoise E w t (nI (q - 40 * i)) else J0.2 65 q) (Q := fun r => ∃ J2, r = some (nI s, J2) ∧ (∀ b k, (b ≠ 46 ∨ k ≠ 26) → J2.1 b k = J0.1 b k) ∧ (∀ b, b ≠ 46 → b ≠ 65 → J2.2 b = J0.2 b) ∧ (∀ k, (k < 15 ∨ 29 < k) → J2.2 46 k = J0.2 46 k) ∧ ∀ q, J2.2 65 q = if 40 * i ≤ q ∧ q < 40 * i + s then zNoise E w t (nI (q - 40 * i)) else J0.2 65 q) (s := s) ?_ s 0 (0, J0) (by omega) ⟨rfl, fun _ _ _ => rfl, fun _ _ _ => rfl, fun _ _ => rfl, fun q => by rw [if_neg (by omega)]⟩ 4096 (by omega)
  rintro k ⟨k2, J'⟩ hk ⟨rfl, a, b, c, d⟩
  dsimp only at hk a b c d ⊢
  have t1 : zTieV J' w s := tieJ (fun b' _ _ => b b' (by omega) (by omega)) (fun k _ => c k (by omega)) ti
  have hm := r_many g t1
  by_cases h : k2 < s
  · right
    obtain ⟨J3, e3, l3⟩ := r_noise g t1 h (by rw [b 47 (by omega) (by omega), b 48 (by omega) (by omega)]; exact hR) ht htn
    refine ⟨h, (k2 + 1, wI J3 65 (40 * i + k2) (zNoise E w t (nI k2))), ⟨rfl, fun b' k' h' => (l3.2.2 b' k' h').trans (a b' k' h'), fun b' h1 h2 => by dsimp only; rw [wI_ne h2, l3.1 b' h1]; exact b b' h1 h2, fun k' h' => by dsimp only; rw [wI_ne (by omega), l3.2.1 k' h']; exact c k' h', fun q => ?_⟩, fun f => ?_⟩
    · dsimp only
      rw [wI_g]
      by_cases hq : q = 40 * i + k2
      · rw [if_pos hq, if_pos (by omega), hq, show 40 * i + k2 - 40 * i = k2 by omega]
      · rw [if_neg hq, l3.1 65 (by omega), d]
        by_cases h3 : 40 * i ≤ q ∧ q < 40 * i + k2
        · rw [if_pos h3, if_pos (by omega)]
        · rw [if_neg h3, if_neg (by omega)]
    · rw [F_X7_film_23, hm, if_pos ((i_lts (by omega) (by omega)).2 h), e3, Option.bind_some, ix_40, if_pos (i_ix (by omega) (by omega)), i_cm (by omega), ← nI_succ]
  · left
    obtain rfl : k2 = s := by omega
    refine ⟨_, ⟨J', rfl, a, b, c, d⟩, fun f => ?_⟩
    rw [F_X7_film_23, hm, if_neg (fun e => h ((i_lts (by omega) (by omega)).1 e))]
theorem c_film (I : zInv L xs E s t n z J) : zAns L xs (F_X6_film v) (F_X7_film v) J := by
  obtain ⟨g, h8, ht, htn, h4, hC, hR⟩ := inv_d I
  have ti := I.2.1.2.1
  by_cases hv : 0 ≤ v.toInt ∧ v.toInt < 4
  · obtain ⟨i, hi0, rfl⟩ := i_upto (x := v) (m := 3) (by omega) (by omega)
    have hi : i < 4 := by omega
    obtain ⟨J1, e1, a1, b1, c1, d1, f1⟩ := b_become (J := J) (x := 1) (y := nI s) hi
    obtain ⟨J2, e2, a2, b2, c2⟩ := t_film (J0 := J1) (s := s) hi b1 h8 (by rw [f1 7 (by omega) (by omega)]; exact h4) (by rw [f1 7 (by omega) (by omega)]; exact ht) htn (by rw [f1 2 (by omega) (by omega), f1 3 (by omega) (by omega)]; exact hC)
    have v1 : zVe (zW 7 J) (zW 7 J1) := veW (fun b _ _ => f1 b (by omega) (by omega)) zVe.rf
    have o2 : ∀ b, b ≠ 4 → b ≠ 13 → b ≠ 38 + 2 * i → b ≠ 39 + 2 * i → J2.2 b = J.2 b := fun b h1 h2 h3 h4 => (b2 b h1 h2 h4).trans (f1 b h3 h4)
    have t2 : zTieV J2 (zW 7 J) s := tieJ (fun b _ _ => o2 b (by omega) (by omega) (by omega) (by omega)) (fun k _ => by rw [o2 46 (by omega) (by omega) (by omega) (by omega)]) ti
    obtain ⟨J3, e3, a3, b3, g62, g63, g64, g65⟩ := r_sheet (J := J2) (d := 1) (m := s) hi (by omega) (by omega)
    have t3 : zTieV J3 (zW 7 J) s := tieJ (fun b _ _ => b3 b (by omega)) (fun k _ => by rw [b3 46 (by omega)]) t2
    obtain ⟨J4, e4, a4, b4, c4, d4⟩ := m_film (J0 := J3) hi g t3 ht htn (by rw [b3 47 (by omega), b3 48 (by omega), o2 47 (by omega) (by omega) (by omega) (by omega), o2 48 (by omega) (by omega) (by omega) (by omega)]; exact hR)
    have o4 : ∀ b, b ≠ 4 → b ≠ 13 → b ≠ 38 + 2 * i → b ≠ 39 + 2 * i → (b < 46 ∨ 46 < b ∧ b < 62 ∨ 65 < b) → J4.2 b = J.2 b := fun b h1 h2 h3 h4 h5 => (b4 b (by omega) (by omega)).trans ((b3 b (by omega)).trans (o2 b h1 h2 h3 h4))
    have o46 : ∀ k, (k < 15 ∨ 29 < k) → J4.2 46 k = J.2 46 k := fun k hk => by rw [c4 k hk, b3 46 (by omega), o2 46 (by omega) (by omega) (by omega) (by omega)]
    have i46 : J2.2 46 14 = nI s := r_many g t2
    refine ⟨nI s, J2, J4, ?_, ?_, E, s, t, n, z, ?_, zIA_of I.1 (a2.trans a1) (o2 2000 (by omega) (by omega) (by omega) (by omega))⟩
    · unfold F_X6_film
      rw [b_sheet hi, Option.bind_some]
      dsimp only
      rw [if_pos (sh_k hi).1, h4, e1, Option.bind_some]
      exact e2
    · unfold F_X7_film
      rw [r_isSheet, Option.bind_some, zOne_t hv]
      refine (if_neg n10).trans ?_
      dsimp only
      rw [i46]
      show Option.bind (F_X7_sheet (nI i) (nI 1) (nI s) J2) _ = _
      rw [e3, Option.bind_some]
      exact e4
    · refine inv_G I (fun b k hb => (a4 b k hb).trans (by rw [a3, a2, a1])) (fun b hb => o4 b (by omega) (by omega) (by omega) (by omega) (by omega)) (fun k hk => o46 k (by omega)) (tieJ (fun b _ _ => b4 b (by omega) (by omega)) (fun k _ => c4 k (by omega)) t3) (fun j hj => ?_)
      by_cases hji : j = i
      · subst hji
        right
        refine ⟨1, s, by omega, by omega, ?_, ?_, ?_, ?_, ?_, fun k hk => ?_⟩
        · rw [b4 _ (by omega) (by omega), b3 _ (by omega), b2 _ (by omega) (by omega) (by omega)]; exact b1
        · rw [b4 _ (by omega) (by omega), b3 _ (by omega), b2 _ (by omega) (by omega) (by omega)]; exact c1
        · rw [b4 _ (by omega) (by omega), g62, if_pos rfl]
        · rw [b4 _ (by omega) (by omega), g63, if_pos rfl]
        · rw [b4 _ (by omega) (by omega), g64, if_pos rfl]
        · rw [b4 _ (by omega) (by omega), b3 _ (by omega), c2 k hk, d4, if_pos (by omega), show 40 * j + k - 40 * j = k by omega, zVe_noise v1]
      · refine iS_o ?_ ?_ ?_ ?_ ?_ (fun k hk => ?_) (I.2.2.2.2.2 j hj)
        · exact o4 _ (by omega) (by omega) (by omega) (by omega) (by omega)
        · exact o4 _ (by omega) (by omega) (by omega) (by omega) (by omega)
        · rw [b4 _ (by omega) (by omega), g62, if_neg hji, o2 _ (by omega) (by omega) (by omega) (by omega)]
        · rw [b4 _ (by omega) (by omega), g63, if_neg hji, o2 _ (by omega) (by omega) (by omega) (by omega)]
        · rw [b4 _ (by omega) (by omega), g64, if_neg hji, o2 _ (by omega) (by omega) (by omega) (by omega)]
        · rw [d4, if_neg (by omega), g65, if_neg (by omega), o2 _ (by omega) (by omega) (by omega) (by omega)]
  · refine zAns.no (v := -2) I ?_ ?_
    · unfold F_X6_film
      rw [b_sheetAt, if_neg hv]
      rfl
    · unfold F_X7_film
      rw [r_isSheet, Option.bind_some, zOne_f hv]
      exact if_pos rfl
end FI
