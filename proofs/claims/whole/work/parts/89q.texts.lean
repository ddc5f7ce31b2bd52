/-! text: one TEXT more -/
section TX
variable {J J1 J2 : zzJ} {E : zEv2} {D : Nat → (Nat → Int32) → Int32} {m n a a' row p : Nat} {c e x l : Nat → Int32} {den : (Nat → Int32) → Int32}
/-- codes that mean something, told -/
theorem seg_val (h : zSeg c a a' den) (hr : row = 13 ∨ row = 20 ∨ row = 27) (hc : ∀ k, a ≤ k → k < a' → J.2 2 k = c k) (h1 : a' - a ≤ 160) (h2 : a' ≤ 960) : ∃ J1, F_X5_value_50 4096 row (nI a') (-1) (nI a) J = some (den (J.2 row), J1) ∧ J1.1 = J.1 ∧ ∀ b, b ≠ 4 → J1.2 b = J.2 b := by
  obtain ⟨J1, e1, v1, _, q1, f1⟩ := h J row 0 a' (4095 - (a' - a) + 1) hr hc (by omega) (Nat.le_refl _) h2
  refine ⟨J1, ?_, q1, f1⟩
  have e0 : F_X5_value_50 4096 row (nI a') (-1) (nI a) J = F_X5_value_50 (4095 - (a' - a) + 1 + (a' - a)) row (nI a') (nI 0 - 1) (nI a) J := by
    rw [show 4095 - (a' - a) + 1 + (a' - a) = 4096 by omega]
    rfl
  rw [e0, e1, F_X5_value_50, if_neg (show ¬ nI a' < nI a' from fun q => by rw [i_lt] at q; omega)]
  have e2 := b_it (J := J1) (c := 4) (k := 0) (z := 160) rfl rfl (by omega) (by omega)
  rw [show (0 : Int32) = nI 0 from rfl, e2, Option.bind_some, v1]
theorem txc_new {e0 e1 e2 : Nat} (h : zTxC2 E n c e) (hD : ∀ p, zCg (D p)) (hn : n < 6) (h0 : 160 * n < e0) (h1 : e0 < e1) (h2 : e1 < e2) (h3 : e2 ≤ 160 * n + 160) (w0 : e (3 * n) = nI e0) (w1 : e (3 * n + 1) = nI e1) (w2 : e (3 * n + 2) = nI e2) (s0 : zSeg c (160 * n) e0 (D 0)) (s1 : zSeg c e0 e1 (D 1)) (s2 : zSeg c e1 e2 (D 2)) : zTxC2 (fun t p f => if t = n then D p f else E t p f) (n + 1) c e := by
  intro c' e' hc he
  refine ⟨fun t p f g q => ?_, fun J row t p k2 k3 hrow ht hp => ?_⟩
  · by_cases hq : t = n
    · simp only [if_pos hq]; exact hD p f g q
    · simp only [if_neg hq]
      exact (h c e (fun _ _ => rfl) (fun _ _ => rfl)).1 t p f g q
  · by_cases hq : t = n
    · subst hq
      simp only [if_true]
      have m3 : ∀ i, i < 3 → nI t * 3 + nI i = nI (3 * t + i) := fun i hi => by rw [show (3 : Int32) = nI 3 from rfl, pk_mul, nI_add, Nat.mul_comm t 3]
      have it : ∀ i, i < 3 → F_X6_itemAt 3 (nI (3 * t + i)) J = some (e (3 * t + i), J) := fun i hi => by
        rw [b_it (z := 18) rfl rfl (by omega) (by omega), k3, he _ (by omega)]
      have pre : ∀ a b, 160 * t ≤ a → b ≤ e2 → ∀ k, a ≤ k → k < b → J.2 2 k = c k := fun a b ha hb k x y => by rw [k2]; exact hc k (by omega)
      have : p = 0 ∨ p = 1 ∨ p = 2 := by omega
      rcases this with rfl | rfl | rfl
      · obtain ⟨J1, v1, q1, f1⟩ := seg_val s0 hrow (pre _ e0 (by omega) (by omega)) (by omega) (by omega)
        refine ⟨J1, ?_, q1, f1⟩
        unfold F_X5_value F_X5_value_30
        rw [m3 0 (by omega), if_pos (show nI 0 = (0 : Int32) from rfl), it 0 (by omega), Option.bind_some, show (160 : Int32) = nI 160 from rfl, pk_mul, Nat.mul_comm t 160]
        dsimp only
        rw [Nat.add_zero, w0]
        exact v1
      · obtain ⟨J1, v1, q1, f1⟩ := seg_val s1 hrow (pre _ e1 (by omega) (by omega)) (by omega) (by omega)
        refine ⟨J1, ?_, q1, f1⟩
        unfold F_X5_value F_X5_value_30
        rw [m3 1 (by omega), if_neg (show ¬ nI 1 = (0 : Int32) by decide), nI_pred, show 3 * t = 3 * t + 0 from rfl, it 0 (by omega), Option.bind_some]
        dsimp only
        rw [it 1 (by omega), Option.bind_some]
        dsimp only
        rw [show e (3 * t + 0) = nI e0 from w0, w1]
        exact v1
      · obtain ⟨J1, v1, q1, f1⟩ := seg_val s2 hrow (pre _ e2 (by omega) (by omega)) (by omega) (by omega)
        refine ⟨J1, ?_, q1, f1⟩
        unfold F_X5_value F_X5_value_30
        rw [m3 2 (by omega), if_neg (show ¬ nI 2 = (0 : Int32) by decide), show 3 * t + 2 = 3 * t + 1 + 1 from rfl, nI_pred, it 1 (by omega), Option.bind_some]
        dsimp only
        rw [show 3 * t + 1 + 1 = 3 * t + 2 from rfl, it 2 (by omega), Option.bind_some, w1, w2]
        exact v1
    · simp only [if_neg hq]
      exact (h c' e' (fun k hk => hc k (by omega)) (fun k hk => he k (by omega))).2 J row t p k2 k3 hrow (by omega) hp
theorem sel_p (hp : p < 3) : zSel (nI p) = p := by
  have : p = 0 ∨ p = 1 ∨ p = 2 := by omega
  rcases this with rfl | rfl | rfl <;> decide
theorem txr_new {b : Nat → Nat} (h : zTxR2 E n x l) (hD : ∀ p, zCg (D p)) (hn : n < 6) (hm : m ≤ 160) (hl : l n = nI m) (hx : ∀ k, k < m → x (160 * n + k) = nI (b k)) (hR : ∀ (J : zzJ) (t : Nat) (w : Int32), t < 6 → J.2 48 t = nI m → (∀ k, k < m → J.2 47 (160 * t + k) = nI (b k)) → ∃ v J1, F_X7_read (nI t) w J = some (v, J1) ∧ zLow J J1 ∧ v = D (zSel w) (fun k => J.2 46 (15 + k))) : zTxR2 (fun t p f => if t = n then D p f else E t p f) (n + 1) x l := by
  intro x' l' hx' hl'
  refine ⟨fun t p f g q => ?_, fun J t p k2 k3 ht hp => ?_⟩
  · by_cases hq : t = n
    · simp only [if_pos hq]; exact hD p f g q
    · simp only [if_neg hq]
      exact (h x l (fun _ _ => rfl) (fun _ _ => rfl)).1 t p f g q
  · by_cases hq : t = n
    · subst hq
      simp only [if_true]
      obtain ⟨v, J1, e1, f1, d1⟩ := hR J t (nI p) hn (by rw [k3, hl' t (by omega), hl]) (fun k hk => by rw [k2, hx' _ (by omega), hx k hk])
      rw [sel_p hp] at d1
      exact ⟨J1, by rw [e1, d1], f1⟩
    · simp only [if_neg hq]
      exact (h x' l' (fun k hk => hx' k (by omega)) (fun k hk => hl' k (by omega))).2 J t p k2 k3 (by omega) hp
end TX
/-! text: the tape is copied; the call -/
def zTail (J : zzJ) : Option (Int32 × zzJ) := (if zzIx (J.2 46 3) 6 then (Option.bind (F_X7_read ((wI (wI J 48 (J.2 46 3).toNatClampNeg (J.2 46 6)) 46 6 (0 : Int32)).2 46 3) (0 : Int32) (wI (wI J 48 (J.2 46 3).toNatClampNeg (J.2 46 6)) 46 6 (0 : Int32))) fun q3 => (if (q3.2.2 46 28) = (0 : Int32) then some ((((wI q3.2 46 3 ((q3.2.2 46 3) + (1 : Int32))).2 46 3) - (1 : Int32)), (wI q3.2 46 3 ((q3.2.2 46 3) + (1 : Int32)))) else some (((-100 : Int32) - (q3.2.2 46 29)), q3.2))) else none)
section TY
variable {L : Nat} {xs : Nat → Int32} {E E' : zEv2} {s t n n' z : Nat} {J J1 J2 Z : zzJ} {b : Nat → Nat}
theorem r_copy (hn : n < 6) (hz : z ≤ 160) (h3 : J.2 46 3 = nI n) (h6 : J.2 46 6 = nI z) (hb : ∀ k, k < z → J.2 49 k = nI (b k)) : ∃ J1, F_X7_text_14 4096 0 J = zTail J1 ∧ J1.1 = J.1 ∧ (∀ c, c ≠ 47 → J1.2 c = J.2 c) ∧ (∀ k, k < 160 * n → J1.2 47 k = J.2 47 k) ∧ ∀ k, k < z → J1.2 47 (160 * n + k) = nI (b k) := by
  refine zLoop (G := fun fu (q : Nat × zzJ) => F_X7_text_14 fu (nI q.1) q.2) (P := fun k q => q.1 = k ∧ q.2.1 = J.1 ∧ (∀ c, c ≠ 47 → q.2.2 c = J.2 c) ∧ (∀ j, j < 160 * n → q.2.2 47 j = J.2 47 j) ∧ ∀ j, j < k → q.2.2 47 (160 * n + j) = nI (b j)) (Q := fun r => ∃ J1, r = zTail J1 ∧ J1.1 = J.1 ∧ (∀ c, c ≠ 47 → J1.2 c = J.2 c) ∧ (∀ k, k < 160 * n → J1.2 47 k = J.2 47 k) ∧ ∀ k, k < z → J1.2 47 (160 * n + k) = nI (b k)) (s := z) ?_ z 0 (0, J) (by omega) ⟨rfl, rfl, fun _ _ => rfl, fun _ _ => rfl, fun j hj => absurd hj (by omega)⟩ 4096 (by omega)
  rintro k ⟨k2, J'⟩ hk ⟨rfl, a1, a2, a3, a4⟩
  dsimp only at hk a1 a2 a3 a4 ⊢
  have h3' : J'.2 46 3 = nI n := by rw [a2 46 (by omega)]; exact h3
  have h6' : J'.2 46 6 = nI z := by rw [a2 46 (by omega)]; exact h6
  by_cases hlt : k2 < z
  · right
    refine ⟨hlt, (k2 + 1, wI J' 47 (160 * n + k2) (nI (b k2))), ⟨rfl, a1, fun c hc => (wI_ne hc).trans (a2 c hc), fun j hj => ?_, fun j hj => ?_⟩, fun fu => ?_⟩
    · dsimp only; rw [wI_g, if_neg (by omega)]; exact a3 j hj
    · dsimp only
      by_cases hq : j = k2
      · rw [hq, wI_g, if_pos rfl]
      · rw [wI_g, if_neg (by omega)]; exact a4 j (by omega)
    · rw [F_X7_text_14, h6', h3', if_pos ((i_lts (by omega) (by omega)).2 hlt), if_pos (i_ix (by omega) (by omega)), show (160 : Int32) = nI 160 from rfl, pk_mul, nI_add, if_pos (i_ix (by omega) (by omega)), i_cm (by omega), i_cm (by omega), nI_1, a2 49 (by omega), hb k2 hlt]
  · left
    obtain rfl : k2 = z := by omega
    refine ⟨_, ⟨J', rfl, a1, a2, a3, a4⟩, fun fu => ?_⟩
    rw [F_X7_text_14, h6', if_neg (fun q => by have := (i_lts (by omega) (by omega)).1 q; omega)]
    unfold zTail
    rw [h6']
theorem iK_mono (hn : n ≤ n') (h : zIK J s n) : zIK J s n' := by
  rcases h with h | ⟨x, u, y, z, g0, ⟨t, ht, et⟩, w⟩
  · exact Or.inl h
  · exact Or.inr ⟨x, u, y, z, g0, ⟨t, by omega, et⟩, w⟩
theorem inv_text (I : zInv L xs E s t n z J) (hn : n ≤ n') (hL : ∀ b k, (b ≠ 46 ∨ k ≠ 26) → Z.1 b k = J.1 b k) (hr : ∀ c, c ≠ 1 → c ≠ 2 → c ≠ 3 → c ≠ 5 → c ≠ 46 → c ≠ 47 → c ≠ 48 → Z.2 c = J.2 c) (h46 : ∀ k, k ≠ 3 → k ≠ 6 → (k < 15 ∨ 29 < k) → Z.2 46 k = J.2 46 k) (hT : zIT Z E' n') (h5 : Z.2 5 2 = 0) (h6 : Z.2 46 6 = 0) : zInv L xs E' s t n' 0 Z := by
  obtain ⟨a, b, c, d, e, f⟩ := I
  have B := iB_c (J1 := Z) (fun b x y => hr b (by omega) (by omega) (by omega) (by omega) (by omega) (by omega) (by omega)) (tieJ (J1 := Z) (fun b x y => hr b (by omega) (by omega) (by omega) (by omega) (by omega) (by omega) (by omega)) (fun k hk => h46 k (by omega) (by omega) (by omega)) b.2.1) b
  refine ⟨⟨by rw [hL 2000 0 (by omega)]; exact a.1, by rw [hr 2000 (by omega) (by omega) (by omega) (by omega) (by omega) (by omega) (by omega)]; exact a.2⟩, ⟨B.1, B.2.1, B.2.2.1, by have := B.2.2.2; omega⟩, hT, ⟨Nat.zero_le _, h5, h6, fun k hk => absurd hk (by omega)⟩, iK_mono hn (iK_c (hr 0 (by omega) (by omega) (by omega) (by omega) (by omega) (by omega) (by omega)) (hr 8 (by omega) (by omega) (by omega) (by omega) (by omega) (by omega) (by omega)) (fun b x y => hr b (by omega) (by omega) (by omega) (by omega) (by omega) (by omega) (by omega)) (fun b x y => hr b (by omega) (by omega) (by omega) (by omega) (by omega) (by omega) (by omega)) (fun k hk => h46 k (by omega) (by omega) (by omega)) e), fun i hi => iS_c hi (fun b hb => hr b (by omega) (by omega) (by omega) (by omega) (by omega) (by omega) (by omega)) (f i hi)⟩
theorem c_text (I : zInv L xs E s t n z J) : zAns L xs F_X6_text F_X7_text J := by
  have I0 := I
  obtain ⟨IA, IB, ⟨n6, h13, h463, tc, tr⟩, ⟨z160, h52, h466, tp⟩, IK, IS⟩ := I
  by_cases hn : n < 6
  · have hb : ∀ k, (fun k => if k < z then (J.2 6 k).toInt.toNat else 0) k < 256 := fun k => by
      dsimp only
      by_cases hk : k < z
      · rw [if_pos hk]
        obtain ⟨x, hx, e1, _⟩ := tp k hk
        rw [e1, i_nI (by omega)]
        omega
      · rw [if_neg hk]; omega
    have hb1 : ∀ k, k < z → J.2 6 k = nI ((fun k => if k < z then (J.2 6 k).toInt.toNat else 0) k) ∧ J.2 49 k = nI ((fun k => if k < z then (J.2 6 k).toInt.toNat else 0) k) := fun k hk => by
      dsimp only
      obtain ⟨x, hx, e1, e2⟩ := tp k hk
      rw [if_pos hk, e2, e1, i_nI (by omega), show ((x : Nat) : Int).toNat = x by omega]
      exact ⟨rfl, rfl⟩
    generalize (fun k => if k < z then (J.2 6 k).toInt.toNat else 0) = b at hb hb1
    obtain ⟨q, D, ok, hq, hD, hC, hR⟩ := t_read (b := b) (m := z) z160 hb
    obtain ⟨J1, e1, f1, k52, k13, kok⟩ := hC J n ⟨z160, h52, fun k hk => (hb1 k hk).1, hb⟩ hn h13
    have g46 : J1.2 46 = J.2 46 := f1.2.1 46 (by omega) (by omega) (by omega) (by omega)
    have g47 : J1.2 47 = J.2 47 := f1.2.1 47 (by omega) (by omega) (by omega) (by omega)
    have g48 : J1.2 48 = J.2 48 := f1.2.1 48 (by omega) (by omega) (by omega) (by omega)
    have g49 : J1.2 49 = J.2 49 := f1.2.1 49 (by omega) (by omega) (by omega) (by omega)
    obtain ⟨J2, e2, f2, r2, l2, w2⟩ := r_copy (J := J1) (b := b) hn z160 (by rw [g46]; exact h463) (by rw [g46]; exact h466) (fun k hk => by rw [g49]; exact (hb1 k hk).2)
    have c3 : J2.2 46 3 = nI n := by rw [r2 46 (by omega), g46]; exact h463
    have c6 : J2.2 46 6 = nI z := by rw [r2 46 (by omega), g46]; exact h466
    have ek48 : (wI (wI J2 48 n (nI z)) 46 6 0).2 48 = (wI J2 48 n (nI z)).2 48 := wI_ne (by omega)
    have ek47 : (wI (wI J2 48 n (nI z)) 46 6 0).2 47 = J2.2 47 := by rw [wI_ne (by omega), wI_ne (by omega)]
    have hR' := hR (wI (wI J2 48 n (nI z)) 46 6 0) n 0 hn (by rw [ek48, wI_g, if_pos rfl]) (fun k hk => by rw [ek47]; exact w2 k hk)
    obtain ⟨v, J3, e3, f3, ok1, ok0⟩ := hR'
    have d3 : J3.2 46 3 = nI n := by rw [f3.2.1 3 (by omega), wI_g, if_neg (by omega), wI_ne (by omega)]; exact c3
    have d6 : J3.2 46 6 = 0 := by rw [f3.2.1 6 (by omega), wI_g, if_pos rfl]
    have dr : ∀ c, c ≠ 46 → c ≠ 47 → c ≠ 48 → J3.2 c = J1.2 c := fun c x y w => by rw [f3.1 c x, wI_ne x, wI_ne w, r2 c y]
    have d46 : ∀ k, k ≠ 3 → k ≠ 6 → (k < 15 ∨ 29 < k) → J3.2 46 k = J.2 46 k := fun k x y w => by rw [f3.2.1 k w, wI_g, if_neg y, wI_ne (by omega), r2 46 (by omega), g46]
    have dL : ∀ b k, (b ≠ 46 ∨ k ≠ 26) → J3.1 b k = J.1 b k := fun b k x => by
      rw [f3.2.2 b k x]
      show J2.1 b k = _
      rw [f2, f1.1]
    have x1 : ∀ (v : Int32) (Z : zzJ), v = (if ok = true then nI n else -100 - nI q) → F_X6_text J = some (v, J1) := fun v Z hv => by
      unfold F_X6_text
      rw [h13, if_pos (show nI n < (6 : Int32) from (i_lts (s := 6) (by omega) (by omega)).2 hn), e1, Option.bind_some, hv]
      dsimp only
      rw [k13]
      cases ok
      · simp only [Bool.false_eq_true, if_false]
        rw [if_neg (i_nm1 (by omega))]
      · simp only [if_true, nI_pred]
    have x2 : F_X7_text J1 = if J3.2 46 28 = 0 then some (nI n, wI J3 46 3 (nI (n + 1))) else some (-100 - J3.2 46 29, J3) := by
      unfold F_X7_text
      rw [g46, h463, if_neg (show ¬ nI n = (6 : Int32) from fun q => by have := i_inj (k := n) (m := 6) (by omega) (by omega) q; omega), e2]
      unfold zTail
      have e3' : F_X7_read ((wI (wI J2 48 n (nI z)) 46 6 (0 : Int32)).2 46 3) 0 (wI (wI J2 48 n (nI z)) 46 6 (0 : Int32)) = some (v, J3) := by
        rw [wI_g, if_neg (by omega), wI_ne (by omega), c3]
        exact e3
      rw [c3, if_pos (i_ix (by omega) (by omega)), i_cm (by omega), c6, e3', Option.bind_some]
      dsimp only
      rw [d3, nI_1, wI_g, if_pos rfl, nI_pred]
    have dIA := zIA_of IA f1.1 (f1.2.1 2000 (by omega) (by omega) (by omega) (by omega))
    have hrr : ∀ c, c ≠ 1 → c ≠ 2 → c ≠ 3 → c ≠ 5 → c ≠ 46 → c ≠ 47 → c ≠ 48 → J3.2 c = J.2 c := fun c y1 y2 y3 y5 y46 y47 y48 => (dr c y46 y47 y48).trans (f1.2.1 c y1 y2 y3 y5)
    have k47 : J3.2 47 = J2.2 47 := (f3.1 47 (by omega)).trans ek47
    have k48 : J3.2 48 = (wI J2 48 n (nI z)).2 48 := (f3.1 48 (by omega)).trans ek48
    have tcn : zTxC2 E n (J1.2 2) (J1.2 3) := fun c' e' hc he => tc c' e' (fun k hk => (hc k hk).trans (f1.2.2.1 k hk)) (fun k hk => (he k hk).trans (f1.2.2.2 k hk))
    have trn : zTxR2 E n (J2.2 47) ((wI J2 48 n (nI z)).2 48) := fun x' l' hx hl => tr x' l' (fun k hk => by rw [hx k hk, l2 k hk, g47]) (fun k hk => by rw [hl k hk, wI_g, if_neg (by omega), r2 48 (by omega), g48])
    cases ok
    · obtain ⟨y28, y29⟩ := ok0 rfl
      refine ⟨-100 - nI q, J1, J3, x1 _ J3 (by rw [if_neg (by decide)]), ?_, E, s, t, n, 0, inv_text I0 (Nat.le_refl n) dL hrr d46 ⟨n6, ?_, d3, ?_, ?_⟩ ?_ d6, dIA⟩
      · rw [x2, y28, if_neg n10, y29]
      · rw [dr 1 (by omega) (by omega) (by omega), k13, if_neg (by decide)]
      · rw [dr 2 (by omega) (by omega) (by omega), dr 3 (by omega) (by omega) (by omega)]
        exact tcn
      · rw [k47, k48]
        exact trn
      · rw [dr 5 (by omega) (by omega) (by omega)]
        exact k52
    · obtain ⟨y28, y29⟩ := ok1 rfl
      obtain ⟨e0, e1', e2', u0, u1, u2, u3, w0, w1, w2', s0, s1, s2⟩ := kok rfl
      have zr : ∀ c, c ≠ 46 → (wI J3 46 3 (nI (n + 1))).2 c = J3.2 c := fun c hc => wI_ne hc
      refine ⟨nI n, J1, wI J3 46 3 (nI (n + 1)), x1 _ J3 (by rw [if_pos rfl]), ?_, fun t p f => if t = n then D p f else E t p f, s, t, n + 1, 0, inv_text I0 (by omega) dL (fun c y1 y2 y3 y5 y46 y47 y48 => (zr c y46).trans (hrr c y1 y2 y3 y5 y46 y47 y48)) (fun k y3 y6 yk => by rw [wI_g, if_neg y3]; exact d46 k y3 y6 yk) ⟨by omega, ?_, ?_, ?_, ?_⟩ ?_ ?_, dIA⟩
      · rw [x2, if_pos y28]
      · rw [zr 1 (by omega), dr 1 (by omega) (by omega) (by omega), k13, if_pos rfl]
      · rw [wI_g, if_pos rfl]
      · rw [zr 2 (by omega), zr 3 (by omega), dr 2 (by omega) (by omega) (by omega), dr 3 (by omega) (by omega) (by omega)]
        exact txc_new tcn hD hn u0 u1 u2 (by omega) w0 w1 w2' s0 s1 s2
      · rw [zr 47 (by omega), zr 48 (by omega), k47, k48]
        exact txr_new (b := b) trn hD hn z160 (by rw [wI_g, if_pos rfl]) w2 (fun J t w ht h48 h47 => by
          obtain ⟨v, J1, e, f, o1, _⟩ := hR J t w ht h48 h47
          exact ⟨v, J1, e, f, (o1 rfl).2⟩)
      · rw [zr 5 (by omega), dr 5 (by omega) (by omega) (by omega)]
        exact k52
      · rw [wI_g, if_neg (by omega)]
        exact d6
  · obtain rfl : n = 6 := by omega
    refine ⟨-4, J, J, ?_, ?_, E, s, t, 6, z, I0, IA⟩
    · unfold F_X6_text
      rw [h13, if_neg (by decide)]
    · unfold F_X7_text
      rw [h463, if_pos (by decide)]
end TY
