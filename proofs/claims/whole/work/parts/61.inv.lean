/-! what is taken over; frames; the invariant -/
theorem b_from {x0 x1 n : Nat} {J : zzJ} (h0 : zKd x0 = 8) (hn0 : zSz x0 = n) (h1 : zKd x1 = 8) (hn1 : zSz x1 = n) (hn : n < 4096) : ∃ J1, F_X6_fillFrom x0 x1 J = some J1 ∧ J1.1 = J.1 ∧ (∀ b, b ≠ x0 → J1.2 b = J.2 b) ∧ ∀ j, j < n → J1.2 x0 j = J.2 x1 j := by
  refine ⟨wC J x0 (va_cpy (J.2 x1) (J.2 x0) 0 0 n), ?_, rfl, fun b hb => wC_ne hb, fun j hj => ?_⟩
  · unfold F_X6_fillFrom
    have e : (Int32.ofNat n).toNatClampNeg = n := i_cm (by omega)
    have e0 : (0 : Int32).toNatClampNeg = 0 := rfl
    have e1 : ¬ Int32.ofNat n < 0 := by rw [i_lt, i_of (by omega)]; show ¬ (n : Int) < 0; omega
    simp only [h0, h1, hn0, hn1, e, e0, e1, Nat.le_refl, show (8 : Nat) ≤ 10 by omega, and_self, if_true, not_false_eq_true, Nat.zero_add]
  · rw [wC_eq]
    unfold va_cpy
    rw [if_pos ⟨Nat.zero_le _, by omega⟩]
    rw [Nat.zero_add, Nat.sub_zero]
section TK
variable {a b : Nat} {J : zzJ}
theorem co_dis (ha : zCoach a) (hb : zCoach b) (hab : a ≠ b) : ∀ i j, i ≤ 6 → j ≤ 6 → a + i ≠ b + j := by
  intro i j hi hj
  rcases ha with rfl | rfl | rfl <;> rcases hb with rfl | rfl | rfl <;> omega
theorem t_take (ha : zCoach a) (hb : zCoach b) (hab : a ≠ b) : ∃ J1, F_X0_take a b J = some J1 ∧ zVe (zW b J) (zW a J1) ∧ J1.1 = J.1 ∧ ∀ c, (c < a ∨ a + 5 < c) → J1.2 c = J.2 c := by
  have hd := co_dis ha hb hab
  have hba : b ≠ a := Ne.symm hab
  have ra := co_r ha
  have rb := co_r hb
  have sa := co_8 ha
  have sb := co_8 hb
  obtain ⟨J1, e1, a1, b1, c1⟩ := b_from (J := wI (wI (wI (wI J a 1 (J.2 b 1)) a 2 (J.2 b 2)) a 3 (J.2 b 3)) a 4 (J.2 b 4)) sa.1.1 sa.1.2 sb.1.1 sb.1.2 (by omega)
  obtain ⟨J2, e2, a2, b2, c2⟩ := b_from (J := J1) sa.2.1.1 sa.2.1.2 sb.2.1.1 sb.2.1.2 (by omega)
  obtain ⟨J3, e3, a3, b3, c3⟩ := b_from (J := J2) sa.2.2.1.1 sa.2.2.1.2 sb.2.2.1.1 sb.2.2.1.2 (by omega)
  obtain ⟨J4, e4, a4, b4, c4⟩ := b_from (J := J3) sa.2.2.2.1.1 sa.2.2.2.1.2 sb.2.2.2.1.1 sb.2.2.2.1.2 (by omega)
  obtain ⟨J5, e5, a5, b5, c5⟩ := b_from (J := J4) sa.2.2.2.2.1.1 sa.2.2.2.2.1.2 sb.2.2.2.2.1.1 sb.2.2.2.2.1.2 (by omega)
  have h0 : ∀ c, c ≠ a → (wI (wI (wI (wI J a 1 (J.2 b 1)) a 2 (J.2 b 2)) a 3 (J.2 b 3)) a 4 (J.2 b 4)).2 c = J.2 c := fun c hc => by rw [wI_ne hc, wI_ne hc, wI_ne hc, wI_ne hc]
  refine ⟨J5, ?_, ⟨fun k h1 h2 => ?_, fun r h1 h2 j hj => ?_, fun j hj => ?_⟩, by rw [a5, a4, a3, a2, a1]; rfl, fun c hc => ?_⟩
  · unfold F_X0_take
    simp only [co_kd ha, co_kd hb, if_true, ra, rb, Option.bind_some, wI_ne hba, e1, e2, e3, e4, e5]
  · show J5.2 (a + 0) k = J.2 (b + 0) k
    rw [b5 _ (by omega), b4 _ (by omega), b3 _ (by omega), b2 _ (by omega), b1 _ (by omega)]
    simp only [wI_get, Nat.add_zero, true_and]
    rcases (show k = 1 ∨ k = 2 ∨ k = 3 ∨ k = 4 by omega) with rfl | rfl | rfl | rfl <;> simp
  · show J5.2 (a + r) j = J.2 (b + r) j
    rcases (show r = 1 ∨ r = 2 ∨ r = 3 ∨ r = 4 by omega) with rfl | rfl | rfl | rfl
    · rw [b5 _ (by omega), b4 _ (by omega), b3 _ (by omega), b2 _ (by omega), c1 j hj, h0 _ (Ne.symm (hd 0 1 (by omega) (by omega)))]
    · rw [b5 _ (by omega), b4 _ (by omega), b3 _ (by omega), c2 j hj, b1 _ (Ne.symm (hd 1 2 (by omega) (by omega))), h0 _ (Ne.symm (hd 0 2 (by omega) (by omega)))]
    · rw [b5 _ (by omega), b4 _ (by omega), c3 j hj, b2 _ (Ne.symm (hd 2 3 (by omega) (by omega))), b1 _ (Ne.symm (hd 1 3 (by omega) (by omega))), h0 _ (Ne.symm (hd 0 3 (by omega) (by omega)))]
    · rw [b5 _ (by omega), c4 j hj, b3 _ (Ne.symm (hd 3 4 (by omega) (by omega))), b2 _ (Ne.symm (hd 2 4 (by omega) (by omega))), b1 _ (Ne.symm (hd 1 4 (by omega) (by omega))), h0 _ (Ne.symm (hd 0 4 (by omega) (by omega)))]
  · show J5.2 (a + 5) j = J.2 (b + 5) j
    rw [c5 j hj, b4 _ (Ne.symm (hd 4 5 (by omega) (by omega))), b3 _ (Ne.symm (hd 3 5 (by omega) (by omega))), b2 _ (Ne.symm (hd 2 5 (by omega) (by omega))), b1 _ (Ne.symm (hd 1 5 (by omega) (by omega))), h0 _ (Ne.symm (hd 0 5 (by omega) (by omega)))]
  · rw [b5 _ (by omega), b4 _ (by omega), b3 _ (by omega), b2 _ (by omega), b1 _ (by omega), h0 _ (by omega)]
end TK
/-- the class: but for what it thinks with, nothing has changed -/
abbrev zFrC (J J1 : zzJ) : Prop := J1.1 = J.1 ∧ ∀ b, (b < 4 ∨ (4 < b ∧ b < 13) ∨ (20 < b ∧ b < 27) ∨ 36 < b) → J1.2 b = J.2 b
theorem zFrC.rf {J : zzJ} : zFrC J J := ⟨rfl, fun _ _ => rfl⟩
theorem zFrC.tr {J J1 J2 : zzJ} (h1 : zFrC J J1) (h2 : zFrC J1 J2) : zFrC J J2 := ⟨h2.1.trans h1.1, fun b hb => (h2.2 b hb).trans (h1.2 b hb)⟩
theorem zSame.fr {a : Nat} {J J1 : zzJ} (h : zSame a J J1) (ha : a = 7 ∨ a = 14) : zFrC J J1 := ⟨h.1, fun b hb => h.2 b (by omega) (by omega)⟩
/-- the reference: likewise; its seats are spoken of by the tie -/
abbrev zFrR (J J1 : zzJ) : Prop := (∀ b, b ≠ 46 → (b < 53 ∨ 58 < b) → J1.2 b = J.2 b) ∧ (∀ k, (k < 15 ∨ 39 < k) → J1.2 46 k = J.2 46 k) ∧ ∀ b k, (b ≠ 46 ∨ k ≠ 26) → J1.1 b k = J.1 b k
theorem zFrR.rf {J : zzJ} : zFrR J J := ⟨fun _ _ _ => rfl, fun _ _ => rfl, fun _ _ _ => rfl⟩
theorem zFrR.tr {J J1 J2 : zzJ} (h1 : zFrR J J1) (h2 : zFrR J1 J2) : zFrR J J2 := ⟨fun b x y => (h2.1 b x y).trans (h1.1 b x y), fun k y => (h2.2.1 k y).trans (h1.2.1 k y), fun b k y => (h2.2.2 b k y).trans (h1.2.2 b k y)⟩
theorem zLow.fr {J J1 : zzJ} (h : zLow J J1) : zFrR J J1 := ⟨fun b x _ => h.1 b x, fun k y => h.2.1 k (by omega), h.2.2⟩
theorem zFrR.wr {J : zzJ} {k : Nat} {v : Int32} (h : 15 ≤ k ∧ k ≤ 39) : zFrR J (wI J 46 k v) := ⟨fun b hb _ => wI_ne hb, fun j hj => by rw [wI_get, if_neg (by omega)], fun _ _ _ => rfl⟩
theorem zFrR.mv {J J1 : zzJ} (h1 : J1.1 = J.1) (h2 : ∀ b, b ≠ 53 → b ≠ 54 → J1.2 b = J.2 b) : zFrR J J1 := ⟨fun b _ _ => h2 b (by omega) (by omega), fun k _ => by rw [h2 46 (by omega) (by omega)], fun b k _ => by rw [h1]⟩
/-- texts that lie in the first n places, whatever lies behind -/
def zTxC2 (E : zEv2) (n : Nat) (c e : Nat → Int32) : Prop := ∀ c' e' : Nat → Int32, (∀ k, k < 160 * n → c' k = c k) → (∀ k, k < 3 * n → e' k = e k) → zTxC E n c' e'
def zTxR2 (E : zEv2) (n : Nat) (x l : Nat → Int32) : Prop := ∀ x' l' : Nat → Int32, (∀ k, k < 160 * n → x' k = x k) → (∀ k, k < n → l' k = l k) → zTxR E n x' l'
theorem zTxC2.at {E : zEv2} {n : Nat} {c e : Nat → Int32} (h : zTxC2 E n c e) : zTxC E n c e := h c e (fun _ _ => rfl) (fun _ _ => rfl)
theorem zTxR2.at {E : zEv2} {n : Nat} {c e : Nat → Int32} (h : zTxR2 E n c e) : zTxR E n c e := h c e (fun _ _ => rfl) (fun _ _ => rfl)
abbrev zIA (L : Nat) (xs : Nat → Int32) (J : zzJ) : Prop := J.1 2000 0 = Int64.ofNat L ∧ J.2 2000 = xs
abbrev zIB (J : zzJ) (s t n : Nat) : Prop := zGoodV (zW 7 J) s ∧ zTieV J (zW 7 J) s ∧ J.2 7 3 = nI t ∧ t < n
abbrev zIT (J : zzJ) (E : zEv2) (n : Nat) : Prop := n ≤ 6 ∧ J.2 1 3 = nI n ∧ J.2 46 3 = nI n ∧ zTxC2 E n (J.2 2) (J.2 3) ∧ zTxR2 E n (J.2 47) (J.2 48)
abbrev zIP (J : zzJ) (z : Nat) : Prop := z ≤ 160 ∧ J.2 5 2 = nI z ∧ J.2 46 6 = nI z ∧ ∀ k, k < z → ∃ b, b < 256 ∧ J.2 6 k = nI b ∧ J.2 49 k = nI b
abbrev zIK (J : zzJ) (s n : Nat) : Prop := (J.2 0 5 = 0 ∧ J.2 46 44 = -1) ∨ (J.2 0 5 = 1 ∧ ∃ u, u ≤ s ∧ J.2 46 44 = nI u ∧ zGoodV (zW 21 J) u ∧ (∃ t, t < n ∧ J.2 21 3 = nI t) ∧ (∀ i, i < u → J.2 22 i = J.2 8 i ∧ J.2 59 i = J.2 23 i ∧ J.2 60 i = J.2 24 i ∧ J.2 61 i = J.2 25 i) ∧ J.2 46 45 = J.2 21 1 ∧ J.2 46 46 = J.2 21 2 ∧ J.2 46 47 = J.2 21 3)
abbrev zIS (J : zzJ) (i : Nat) : Prop := (J.2 (38 + 2 * i) 0 = -1 ∧ J.2 62 i = 0) ∨ ∃ d m, d < 3 ∧ m ≤ 40 ∧ J.2 (38 + 2 * i) 0 = nI d ∧ J.2 (38 + 2 * i) 1 = nI m ∧ J.2 62 i = 1 ∧ J.2 63 i = nI d ∧ J.2 64 i = nI m ∧ ∀ k, k < m → J.2 (39 + 2 * i) k = J.2 65 (40 * i + k)
abbrev zInv (L : Nat) (xs : Nat → Int32) (E : zEv2) (s t n z : Nat) (J : zzJ) : Prop := zIA L xs J ∧ zIB J s t n ∧ zIT J E n ∧ zIP J z ∧ zIK J s n ∧ ∀ i, i < 4 → zIS J i
section IV
variable {L : Nat} {xs : Nat → Int32} {E : zEv2} {s t n z : Nat} {J J1 : zzJ}
theorem iK_c (h0 : J1.2 0 = J.2 0) (h8 : J1.2 8 = J.2 8) (h21 : ∀ b, 20 < b → b < 27 → J1.2 b = J.2 b) (h59 : ∀ b, 58 < b → b < 62 → J1.2 b = J.2 b) (h46 : ∀ k, 39 < k → J1.2 46 k = J.2 46 k) (h : zIK J s n) : zIK J1 s n := by
  have e : ∀ r, r < 6 → zW 21 J1 r = zW 21 J r := fun r hr => h21 _ (by omega) (by omega)
  have g : ∀ u, zGoodV (zW 21 J) u → zGoodV (zW 21 J1) u := fun u => by
    unfold zGoodV
    rw [e 0 (by omega), e 1 (by omega), e 2 (by omega), e 3 (by omega), e 4 (by omega), e 5 (by omega)]
    exact id
  unfold zIK
  rw [h0, h8, h21 21 (by omega) (by omega), h21 22 (by omega) (by omega), h21 23 (by omega) (by omega), h21 24 (by omega) (by omega), h21 25 (by omega) (by omega), h59 59 (by omega) (by omega), h59 60 (by omega) (by omega), h59 61 (by omega) (by omega), h46 44 (by omega), h46 45 (by omega), h46 46 (by omega), h46 47 (by omega)]
  rcases h with h | ⟨x, u, y, z, g0, w⟩
  · exact Or.inl h
  · exact Or.inr ⟨x, u, y, z, g u g0, w⟩
theorem iS_c {i : Nat} (hi : i < 4) (h : ∀ b, (37 < b ∧ b < 46) ∨ (61 < b ∧ b < 66) → J1.2 b = J.2 b) (hs : zIS J i) : zIS J1 i := by
  unfold zIS
  rw [h (38 + 2 * i) (by omega), h (39 + 2 * i) (by omega), h 62 (by omega), h 63 (by omega), h 64 (by omega), h 65 (by omega)]
  exact hs
theorem iT_c (h1 : J1.2 1 = J.2 1) (h2 : J1.2 2 = J.2 2) (h3 : J1.2 3 = J.2 3) (h46 : J1.2 46 3 = J.2 46 3) (h47 : J1.2 47 = J.2 47) (h48 : J1.2 48 = J.2 48) (h : zIT J E n) : zIT J1 E n := by
  unfold zIT
  rw [h1, h2, h3, h46, h47, h48]
  exact h
theorem iP_c (h1 : J1.2 5 = J.2 5) (h2 : J1.2 6 = J.2 6) (h46 : J1.2 46 6 = J.2 46 6) (h49 : J1.2 49 = J.2 49) (h : zIP J z) : zIP J1 z := by
  unfold zIP
  rw [h1, h2, h46, h49]
  exact h
theorem goodW {a : Nat} (h : ∀ b, a ≤ b → b < a + 6 → J1.2 b = J.2 b) (g : zGoodV (zW a J) s) : zGoodV (zW a J1) s := by
  have e : ∀ r, r < 6 → zW a J1 r = zW a J r := fun r hr => h _ (by omega) (by omega)
  unfold zGoodV
  rw [e 0 (by omega), e 1 (by omega), e 2 (by omega), e 3 (by omega), e 4 (by omega), e 5 (by omega)]
  exact g
theorem veW {a : Nat} {w : zVw} (h : ∀ b, a ≤ b → b < a + 6 → J1.2 b = J.2 b) (v : zVe w (zW a J)) : zVe w (zW a J1) := by
  have e : ∀ r, r < 6 → zW a J1 r = zW a J r := fun r hr => h _ (by omega) (by omega)
  refine ⟨fun k x y => ?_, fun r x y j hj => ?_, fun j hj => ?_⟩
  · rw [e 0 (by omega)]; exact v.1 k x y
  · rw [e r (by omega)]; exact v.2.1 r x y j hj
  · rw [e 5 (by omega)]; exact v.2.2 j hj
theorem iB_c (h : ∀ b, 6 < b → b < 13 → J1.2 b = J.2 b) (ti : zTieV J1 (zW 7 J) s) (hb : zIB J s t n) : zIB J1 s t n := by
  have g := goodW (a := 7) (fun b x y => h b (by omega) (by omega)) hb.1
  refine ⟨g, zVe_tie (veW (fun b x y => h b (by omega) (by omega)) zVe.rf) hb.1.1 ti, ?_, hb.2.2.2⟩
  rw [h 7 (by omega) (by omega)]
  exact hb.2.2.1
theorem tieJ {w : zVw} (h : ∀ b, 49 < b → b < 55 → J1.2 b = J.2 b) (h4 : ∀ k, (k = 4 ∨ k = 7 ∨ k = 8 ∨ k = 14) → J1.2 46 k = J.2 46 k) (ti : zTieV J w s) : zTieV J1 w s := by
  unfold zTieV
  rw [h 50 (by omega) (by omega), h 51 (by omega) (by omega), h 52 (by omega) (by omega), h 53 (by omega) (by omega), h 54 (by omega) (by omega), h4 4 (by omega), h4 7 (by omega), h4 8 (by omega), h4 14 (by omega)]
  exact ti
theorem inv_C (I : zInv L xs E s t n z J) (h : zFrC J J1) : zInv L xs E s t n z J1 := by
  obtain ⟨a, b, c, d, e, f⟩ := I
  refine ⟨⟨by rw [h.1]; exact a.1, by rw [h.2 2000 (by omega)]; exact a.2⟩, iB_c (fun b x y => h.2 b (by omega)) (tieJ (fun b _ _ => h.2 b (by omega)) (fun k _ => by rw [h.2 46 (by omega)]) b.2.1) b, iT_c (h.2 _ (by omega)) (h.2 _ (by omega)) (h.2 _ (by omega)) (by rw [h.2 46 (by omega)]) (h.2 _ (by omega)) (h.2 _ (by omega)) c, iP_c (h.2 _ (by omega)) (h.2 _ (by omega)) (by rw [h.2 46 (by omega)]) (h.2 _ (by omega)) d, iK_c (h.2 _ (by omega)) (h.2 _ (by omega)) (fun b _ _ => h.2 b (by omega)) (fun b _ _ => h.2 b (by omega)) (fun k _ => by rw [h.2 46 (by omega)]) e, fun i hi => iS_c hi (fun b _ => h.2 b (by omega)) (f i hi)⟩
theorem inv_R (I : zInv L xs E s t n z J) (h : zFrR J J1) (ti : zTieV J1 (zW 7 J) s) : zInv L xs E s t n z J1 := by
  obtain ⟨a, b, c, d, e, f⟩ := I
  exact ⟨⟨by rw [h.2.2 2000 0 (by omega)]; exact a.1, by rw [h.1 2000 (by omega) (by omega)]; exact a.2⟩, iB_c (fun b x y => h.1 b (by omega) (by omega)) ti b, iT_c (h.1 _ (by omega) (by omega)) (h.1 _ (by omega) (by omega)) (h.1 _ (by omega) (by omega)) (h.2.1 3 (by omega)) (h.1 _ (by omega) (by omega)) (h.1 _ (by omega) (by omega)) c, iP_c (h.1 _ (by omega) (by omega)) (h.1 _ (by omega) (by omega)) (h.2.1 6 (by omega)) (h.1 _ (by omega) (by omega)) d, iK_c (h.1 _ (by omega) (by omega)) (h.1 _ (by omega) (by omega)) (fun b _ _ => h.1 b (by omega) (by omega)) (fun b _ _ => h.1 b (by omega) (by omega)) (fun k _ => h.2.1 k (by omega)) e, fun i hi => iS_c hi (fun b _ => h.1 b (by omega) (by omega)) (f i hi)⟩
end IV
/-- a call: the same answer on both sides, and all holds again -/
def zAns {α : Type} (L : Nat) (xs : Nat → Int32) (F R : zzJ → Option (α × zzJ)) (J : zzJ) : Prop := ∃ v J1 J2, F J = some (v, J1) ∧ R J1 = some (v, J2) ∧ ∃ E s t n z, zInv L xs E s t n z J2 ∧ zIA L xs J1
theorem zIA_wr {L : Nat} {xs : Nat → Int32} {J : zzJ} {a k : Nat} {v : Int32} (h : a ≠ 2000) (i : zIA L xs J) : zIA L xs (wI J a k v) := ⟨i.1, (wI_ne (Ne.symm h)).trans i.2⟩
theorem zIA_of {L : Nat} {xs : Nat → Int32} {J J1 : zzJ} (i : zIA L xs J) (h1 : J1.1 = J.1) (h2 : J1.2 2000 = J.2 2000) : zIA L xs J1 := ⟨by rw [h1]; exact i.1, h2.trans i.2⟩
theorem zAns.qry {α : Type} {L : Nat} {xs : Nat → Int32} {F R : zzJ → Option (α × zzJ)} {J : zzJ} {E : zEv2} {s t n z : Nat} (I : zInv L xs E s t n z J) (v : α) (h1 : ∃ J1, F J = some (v, J1) ∧ zFrC J J1) (h2 : ∀ J1, zInv L xs E s t n z J1 → (∀ b, 6 < b → b < 13 → J1.2 b = J.2 b) → ∃ J2, R J1 = some (v, J2) ∧ zFrR J1 J2 ∧ zTieV J2 (zW 7 J1) s) : zAns L xs F R J := by
  obtain ⟨J1, e1, f1⟩ := h1
  have I1 := inv_C I f1
  obtain ⟨J2, e2, f2, ti⟩ := h2 J1 I1 (fun b x y => f1.2 b (by omega))
  exact ⟨v, J1, J2, e1, e2, E, s, t, n, z, inv_R I1 f2 ti, I1.1⟩
