/-! all stand up, all sit again; image, back -/
def zStd (w : zVw) : Nat → zVw
  | 0 => w
  | k + 1 => zMv (zStd w k) k (-1)
section IM
variable {L : Nat} {xs : Nat → Int32} {E : zEv2} {s t n z : Nat} {J J1 J2 : zzJ} {w w' : zVw} {x y v u q : Int32} {a r i : Nat}
theorem zStd_0 {k : Nat} (h : r < 4) : zStd w k r = w r := by
  induction k with
  | zero => rfl
  | succ k ih => rw [zStd, zMv_0 h, ih]
theorem zStd_4 {k j : Nat} : zStd w k 4 j = if j < k then -1 else w 4 j := by
  induction k with
  | zero => rw [if_neg (by omega)]; rfl
  | succ k ih =>
    rw [zStd, zMv_4, ih]
    by_cases h : j = k
    · rw [if_pos h, if_pos (by omega)]
    · rw [if_neg h]
      by_cases h2 : j < k
      · rw [if_pos h2, if_pos (by omega)]
      · rw [if_neg h2, if_neg (by omega)]
theorem zStd_g {k : Nat} (g : zGoodV w s) (hk : k ≤ s) : zGoodV (zStd w k) s := by
  induction k with
  | zero => exact g
  | succ k ih => exact zMv_good (ih (by omega)) (by omega) (Or.inl rfl)
theorem zStd_5 (g : zGoodV w s) {q : Nat} (hq : q < 24) : zStd w s 5 q = -1 := by
  rcases (zStd_g g (Nat.le_refl s)).2.2.2 q hq with h | ⟨i, hi, _, h⟩
  · exact h
  · rw [zStd_4, if_pos hi] at h
    exact absurd h.symm (i_nm1 (by omega))
theorem r_stand {γ : Type} {G : Nat → Nat → zzJ → γ} {K : zzJ → γ} (hs : ∀ (f k : Nat) (J J' : zzJ), J.2 46 14 = nI s → k < s → F_X7_seats (nI k) (-1) J = some J' → G (f + 1) k J = G f (k + 1) J') (he : ∀ (f : Nat) (J : zzJ), J.2 46 14 = nI s → G (f + 1) s J = K J) (g : zGoodV w s) (ti : zTieV J w s) : ∃ J', G 4096 0 J = K J' ∧ zTieV J' (zStd w s) s ∧ J'.1 = J.1 ∧ ∀ b, b ≠ 53 → b ≠ 54 → J'.2 b = J.2 b := by
  have h8 := g.1
  refine zLoop (G := fun f (a : Nat × zzJ) => G f a.1 a.2) (P := fun k a => a.1 = k ∧ zTieV a.2 (zStd w k) s ∧ a.2.1 = J.1 ∧ ∀ b, b ≠ 53 → b ≠ 54 → a.2.2 b = J.2 b) (Q := fun r => ∃ J', r = K J' ∧ zTieV J' (zStd w s) s ∧ J'.1 = J.1 ∧ ∀ b, b ≠ 53 → b ≠ 54 → J'.2 b = J.2 b) (s := s) ?_ s 0 (0, J) (by omega) ⟨rfl, ti, rfl, fun _ _ _ => rfl⟩ 4096 (by omega)
  rintro k ⟨k2, J'⟩ hk ⟨rfl, t1, a1, b1⟩
  dsimp only at hk t1 a1 b1 ⊢
  have hm : J'.2 46 14 = nI s := r_many (zStd_g g hk) t1
  by_cases h : k2 < s
  · right
    obtain ⟨J3, e3, t3, a3, b3⟩ := m_seats (q := -1) (zStd_g g hk) t1 h (Or.inl rfl)
    exact ⟨h, (k2 + 1, J3), ⟨rfl, t3, a3.trans a1, fun b h1 h2 => (b3 b h1 h2).trans (b1 b h1 h2)⟩, fun f => hs f k2 J' J3 hm h e3⟩
  · left
    obtain rfl : k2 = s := by omega
    exact ⟨_, ⟨J', rfl, t1, a1, b1⟩, fun f => he f J' hm⟩
/-- one who stands sits down, cell by cell -/
theorem r_seat0 {p : Nat} (hp : p < 8) (h53 : J.2 53 p = -1) (hq : zQok q) : ∃ J1, F_X7_seats (nI p) q J = some J1 ∧ J1.1 = J.1 ∧ (∀ b, b ≠ 53 → b ≠ 54 → J1.2 b = J.2 b) ∧ (∀ j, J1.2 53 j = if j = p then q else J.2 53 j) ∧ ∀ j, j < 24 → J1.2 54 j = if nI j = q then nI p else J.2 54 j := by
  have hx : zzIx (nI p) 8 := i_ix (by omega) (by omega)
  have hc : (nI p).toNatClampNeg = p := i_cm (by omega)
  have c53 : ∀ j, (wI J 53 p q).2 53 j = if j = p then q else J.2 53 j := fun j => by
    rw [wI_get]
    by_cases hj : j = p
    · rw [if_pos ⟨rfl, hj⟩, if_pos hj]
    · rw [if_neg (fun z => hj z.2), if_neg hj]
  unfold F_X7_seats F_X7_seats_22
  rw [if_pos hx, if_pos (show J.2 53 (nI p).toNatClampNeg = -1 by rw [hc]; exact h53), if_pos hx, hc]
  rcases hq with rfl | ⟨k, hk, rfl⟩
  · rw [if_pos rfl]
    exact ⟨_, rfl, rfl, fun b h3 _ => wI_ne h3, c53, fun j hj => by rw [if_neg (i_nm1 (by omega)), wI_ne (by omega)]⟩
  · rw [if_neg (i_nm1 (by omega)), if_pos (i_ix hk (by omega)), i_cm (by omega)]
    refine ⟨_, rfl, rfl, fun b h3 h4 => (wI_ne h4).trans (wI_ne h3), fun j => by rw [wI_ne (by omega)]; exact c53 j, fun j hj => ?_⟩
    rw [wI_get, wI_ne (by omega)]
    by_cases hjk : j = k
    · subst hjk
      rw [if_pos ⟨rfl, rfl⟩, if_pos rfl]
    · rw [if_neg (fun z => hjk z.2), if_neg (fun z => hjk (i_inj (by omega) (by omega) z))]
/-- the first k of u sit as told, the rest stand -/
abbrev zRe (A : Nat → Int32) (u k : Nat) (f53 f54 : Nat → Int32) : Prop := (∀ j, j < k → f53 j = A j) ∧ (∀ j, k ≤ j → j < u → f53 j = -1) ∧ (∀ j, j < k → ∀ q, q < 24 → A j = nI q → f54 q = nI j) ∧ ∀ q, q < 24 → (∀ j, j < k → A j ≠ nI q) → f54 q = -1
theorem zRe_step {A : Nat → Int32} {u k : Nat} (hA : ∀ i j q, i < u → j < u → q < 24 → A i = nI q → A j = nI q → i = j) (hq : zQok (A k)) (hu : u ≤ 8) (hk : k < u) (h : zRe A u k (J.2 53) (J.2 54)) : ∃ J1, F_X7_seats (nI k) (A k) J = some J1 ∧ J1.1 = J.1 ∧ (∀ b, b ≠ 53 → b ≠ 54 → J1.2 b = J.2 b) ∧ zRe A u (k + 1) (J1.2 53) (J1.2 54) := by
  obtain ⟨h1, h2, h3, h4⟩ := h
  obtain ⟨J1, e, a, b, c, d⟩ := r_seat0 (J := J) (p := k) (by omega) (h2 k (by omega) hk) hq
  refine ⟨J1, e, a, b, fun j hj => ?_, fun j hj hj2 => ?_, fun j hj q hq2 hAq => ?_, fun q hq2 hn => ?_⟩
  · rw [c]
    by_cases hjk : j = k
    · rw [if_pos hjk, hjk]
    · rw [if_neg hjk]; exact h1 j (by omega)
  · rw [c, if_neg (by omega)]; exact h2 j (by omega) hj2
  · rw [d q hq2]
    by_cases hjk : j = k
    · subst hjk
      rw [if_pos hAq.symm]
    · rw [if_neg (fun e2 => hjk (hA j k q (by omega) hk hq2 hAq e2.symm))]
      exact h3 j (by omega) q hq2 hAq
  · rw [d q hq2, if_neg (fun e2 => hn k (by omega) e2.symm)]
    exact h4 q hq2 (fun j hj => hn j (by omega))
theorem zRe_A (g : zGoodV w s) : (∀ i j q, i < s → j < s → q < 24 → w 4 i = nI q → w 4 j = nI q → i = j) ∧ ∀ i, i < s → zQok (w 4 i) := by
  have h8 := g.1
  refine ⟨fun i j q hi hj hq h1 h2 => ?_, fun i hi => (zOwn_open g hi).ok⟩
  exact i_inj (by omega) (by omega) ((zMv_back g hi h1 hq).symm.trans (zMv_back g hj h2 hq))
theorem zRe_end (g : zGoodV w s) {f53 f54 : Nat → Int32} (h : zRe (w 4) s s f53 f54) : (∀ j, j < s → f53 j = w 4 j) ∧ ∀ q, q < 24 → f54 q = w 5 q := by
  refine ⟨h.1, fun q hq => ?_⟩
  rcases g.2.2.2 q hq with h5 | ⟨i, hi, h5, h4⟩
  · rw [h5]
    exact h.2.2.2 q hq (fun j hj e => by
      have := zMv_back g hj e hq
      have h8 := g.1
      exact i_nm1 (by omega) (this.symm.trans h5))
  · rw [h5]
    exact h.2.2.1 i hi q hq h4
theorem zRe_0 (g : zGoodV w s) (ti : zTieV J (zStd w s) s) (A : Nat → Int32) {u : Nat} (hu : u ≤ s) : zRe A u 0 (J.2 53) (J.2 54) := by
  refine ⟨fun j hj => absurd hj (by omega), fun j _ hj => ?_, fun j hj => absurd hj (by omega), fun q hq _ => ?_⟩
  · rw [(ti.1 j (by omega)).2.2.2, zStd_4, if_pos (by omega)]
  · rw [ti.2.1 q hq, zStd_5 g hq]
theorem c_image (I : zInv L xs E s t n z J) : zAns L xs F_X6_image F_X7_image J := by
  obtain ⟨g, h8, ht, htn, h4, hC, _⟩ := inv_d I
  have ti := I.2.1.2.1
  obtain ⟨J0, e0, v0, a0, b0⟩ := t_take (J := J) zC21 zC7 (by omega)
  generalize hJ1 : wI J0 0 5 1 = J1
  have b1 : ∀ c, (c < 21 ∨ 26 < c) → c ≠ 0 → J1.2 c = J.2 c := fun c hc h0 => by rw [← hJ1, wI_ne h0]; exact b0 c hc
  have v1 : zVe (zW 7 J) (zW 21 J1) := veW (fun b _ _ => by rw [← hJ1, wI_ne (by omega)]) v0
  have t1 : zTieV J1 (zW 7 J) s := tieJ (fun b _ _ => b1 b (by omega) (by omega)) (fun k _ => by rw [b1 46 (by omega) (by omega)]) ti
  have g46 : ∀ (J' : zzJ) (p i : Nat) (v : Int32) (j : Nat), (wI J' p i v).2 p j = if j = i then v else J'.2 p j := fun J' p i v j => by
    rw [wI_get]
    by_cases hj : j = i
    · rw [if_pos ⟨rfl, hj⟩, if_pos hj]
    · rw [if_neg (fun q => hj q.2), if_neg hj]
  have lp : ∃ J2, F_X7_image_2 4096 0 J1 = some (nI s, J2) ∧ J2.1 = J1.1 ∧ (∀ b, b ≠ 59 → b ≠ 60 → b ≠ 61 → b ≠ 46 → J2.2 b = J1.2 b) ∧ (∀ j, j < s → J2.2 59 j = J1.2 51 j ∧ J2.2 60 j = J1.2 52 j ∧ J2.2 61 j = J1.2 53 j) ∧ (∀ k, (k < 44 ∨ 47 < k) → J2.2 46 k = J1.2 46 k) ∧ J2.2 46 44 = J1.2 46 14 ∧ J2.2 46 45 = J1.2 46 7 ∧ J2.2 46 46 = J1.2 46 8 ∧ J2.2 46 47 = J1.2 46 4 := by
    refine zLoop (G := fun f (a : Nat × zzJ) => F_X7_image_2 f (nI a.1) a.2) (P := fun k a => a.1 = k ∧ a.2.1 = J1.1 ∧ (∀ b, b ≠ 59 → b ≠ 60 → b ≠ 61 → a.2.2 b = J1.2 b) ∧ ∀ j, j < k → a.2.2 59 j = J1.2 51 j ∧ a.2.2 60 j = J1.2 52 j ∧ a.2.2 61 j = J1.2 53 j) (Q := fun r => ∃ J2, r = some (nI s, J2) ∧ J2.1 = J1.1 ∧ (∀ b, b ≠ 59 → b ≠ 60 → b ≠ 61 → b ≠ 46 → J2.2 b = J1.2 b) ∧ (∀ j, j < s → J2.2 59 j = J1.2 51 j ∧ J2.2 60 j = J1.2 52 j ∧ J2.2 61 j = J1.2 53 j) ∧ (∀ k, (k < 44 ∨ 47 < k) → J2.2 46 k = J1.2 46 k) ∧ J2.2 46 44 = J1.2 46 14 ∧ J2.2 46 45 = J1.2 46 7 ∧ J2.2 46 46 = J1.2 46 8 ∧ J2.2 46 47 = J1.2 46 4) (s := s) ?_ s 0 (0, J1) (by omega) ⟨rfl, rfl, fun _ _ _ _ => rfl, fun j hj => absurd hj (by omega)⟩ 4096 (by omega)
    rintro k ⟨k2, J'⟩ hk ⟨rfl, a, b, c⟩
    dsimp only at hk a b c ⊢
    have hm : J'.2 46 14 = nI s := by rw [b 46 (by omega) (by omega) (by omega)]; exact r_many g t1
    by_cases h : k2 < s
    · right
      have hx : zzIx (nI k2) 8 := i_ix (by omega) (by omega)
      have hc : (nI k2).toNatClampNeg = k2 := i_cm (by omega)
      refine ⟨h, (k2 + 1, wI (wI (wI J' 59 k2 (J'.2 51 k2)) 60 k2 (J'.2 52 k2)) 61 k2 (J'.2 53 k2)), ⟨rfl, a, fun b' h1 h2 h3 => by dsimp only; rw [wI_ne h3, wI_ne h2, wI_ne h1]; exact b b' h1 h2 h3, fun j hj => ?_⟩, fun f => ?_⟩
      · dsimp only
        rw [wI_ne (show (59 : Nat) ≠ 61 by omega), wI_ne (show (59 : Nat) ≠ 60 by omega), wI_ne (show (60 : Nat) ≠ 61 by omega), g46, g46, g46, wI_ne (show (60 : Nat) ≠ 59 by omega), wI_ne (show (61 : Nat) ≠ 60 by omega), wI_ne (show (61 : Nat) ≠ 59 by omega)]
        by_cases hj2 : j = k2
        · rw [if_pos hj2, if_pos hj2, if_pos hj2, b 51 (by omega) (by omega) (by omega), b 52 (by omega) (by omega) (by omega), b 53 (by omega) (by omega) (by omega), hj2]
          exact ⟨rfl, rfl, rfl⟩
        · rw [if_neg hj2, if_neg hj2, if_neg hj2]
          exact c j (by omega)
      · rw [F_X7_image_2, hm, if_pos ((i_lts (by omega) (by omega)).2 h)]
        simp only [if_pos hx, hc]
        rw [← nI_succ]
        rfl
    · left
      obtain rfl : k2 = s := by omega
      refine ⟨_, ⟨wI (wI (wI (wI J' 46 44 (J'.2 46 14)) 46 45 (J'.2 46 7)) 46 46 (J'.2 46 8)) 46 47 (J'.2 46 4), rfl, a, fun b' h1 h2 h3 h4 => ?_, fun j hj => ?_, fun k hk => ?_, ?_, ?_, ?_, ?_⟩, fun f => ?_⟩
      · rw [wI_ne h4, wI_ne h4, wI_ne h4, wI_ne h4]; exact b b' h1 h2 h3
      · exact c j hj
      · rw [g46, if_neg (by omega), g46, if_neg (by omega), g46, if_neg (by omega), g46, if_neg (by omega), b 46 (by omega) (by omega) (by omega)]
      · simp [wI_get, b 46 (by omega) (by omega) (by omega)]
      · simp [wI_get, b 46 (by omega) (by omega) (by omega)]
      · simp [wI_get, b 46 (by omega) (by omega) (by omega)]
      · simp [wI_get, b 46 (by omega) (by omega) (by omega)]
      · have hn : ¬ nI k2 < J'.2 46 14 := by rw [hm]; exact fun e => h ((i_lts (by omega) (by omega)).1 e)
        rw [F_X7_image_2, if_neg hn]
        simp [wI_get, hm]
  obtain ⟨J2, e2, a2, b2, c2, d2, m44, m45, m46, m47⟩ := lp
  refine ⟨nI s, J1, J2, ?_, e2, E, s, t, n, z, ?_, zIA_of I.1 (by rw [← hJ1]; exact a0) (b1 2000 (by omega) (by omega))⟩
  · unfold F_X6_image
    rw [e0, Option.bind_some, hJ1, b1 7 (by omega) (by omega), h4]
  · obtain ⟨A, B, C, D, K, S⟩ := I
    have o : ∀ b, b ≠ 0 → (b < 21 ∨ (26 < b ∧ b < 46) ∨ (46 < b ∧ b < 59) ∨ 61 < b) → J2.2 b = J.2 b := fun b h0 hb => (b2 b (by omega) (by omega) (by omega) (by omega)).trans (b1 b (by omega) h0)
    have o46 : ∀ k, k < 44 → J2.2 46 k = J.2 46 k := fun k hk => (d2 k (by omega)).trans (by rw [b1 46 (by omega) (by omega)])
    have v2 : zVe (zW 7 J) (zW 21 J2) := veW (J := J1) (fun b _ _ => b2 b (by omega) (by omega) (by omega) (by omega)) v1
    refine ⟨⟨by rw [a2, ← hJ1]; exact (congrArg (fun f => f 2000 0) a0).trans A.1, by rw [o 2000 (by omega) (by omega)]; exact A.2⟩, iB_c (fun b _ _ => o b (by omega) (by omega)) (tieJ (fun b _ _ => o b (by omega) (by omega)) (fun k _ => o46 k (by omega)) ti) B, iT_c (o _ (by omega) (by omega)) (o _ (by omega) (by omega)) (o _ (by omega) (by omega)) (o46 _ (by omega)) (o _ (by omega) (by omega)) (o _ (by omega) (by omega)) C, iP_c (o _ (by omega) (by omega)) (o _ (by omega) (by omega)) (o46 _ (by omega)) (o _ (by omega) (by omega)) D, Or.inr ⟨?_, s, Nat.le_refl _, ?_, zVe_good v2 g, ⟨t, htn, (v2.1 3 (by omega) (by omega)).trans ht⟩, fun i hi => ⟨?_, ?_, ?_, ?_⟩, ?_, ?_, ?_⟩, fun i hi => iS_c hi (fun b _ => o b (by omega) (by omega)) (S i hi)⟩
    · rw [b2 0 (by omega) (by omega) (by omega) (by omega), ← hJ1]; simp [wI_get]
    · rw [m44]; exact r_many g t1
    · rw [o 8 (by omega) (by omega)]; exact v2.2.1 1 (by omega) (by omega) i (by omega)
    · rw [(c2 i hi).1, (t1.1 i hi).2.1]; exact (v2.2.1 2 (by omega) (by omega) i (by omega)).symm
    · rw [(c2 i hi).2.1, (t1.1 i hi).2.2.1]; exact (v2.2.1 3 (by omega) (by omega) i (by omega)).symm
    · rw [(c2 i hi).2.2, (t1.1 i hi).2.2.2]; exact (v2.2.1 4 (by omega) (by omega) i (by omega)).symm
    · rw [m45, t1.2.2.1]; exact (v2.1 1 (by omega) (by omega)).symm
    · rw [m46, t1.2.2.2.1]; exact (v2.1 2 (by omega) (by omega)).symm
    · rw [m47, t1.2.2.2.2.1]; exact (v2.1 3 (by omega) (by omega)).symm
end IM
