/-! seats that are drawn from a hat -/
theorem zz_of32 (x : Int32) : ∃ n, n < 2 ^ 32 ∧ x = nI n := ⟨x.toBitVec.toNat, x.toBitVec.isLt, Int32.toBitVec_inj.mp (by show _ = BitVec.ofNat 32 _; simp)⟩
theorem ush9 (x : Int32) : ∃ m, m < 8388608 ∧ zUsh x 9 = nI m := by
  obtain ⟨n, hn, rfl⟩ := zz_of32 x
  have hs : n >>> 9 < 8388608 := by
    rw [Nat.shiftRight_eq_div_pow]
    omega
  refine ⟨n >>> 9, hs, ?_⟩
  have e2 : UInt32.ofNat n >>> ((9 : Int32).toUInt32 &&& Int32.toUInt32 31) = UInt32.ofNat (n >>> 9) := by
    apply UInt32.toNat_inj.1
    have h1 : (UInt32.ofNat n).toNat = n := Nat.mod_eq_of_lt (by omega)
    have h2 : (UInt32.ofNat (n >>> 9)).toNat = n >>> 9 := Nat.mod_eq_of_lt (by omega)
    rw [UInt32.toNat_shiftRight, h1, h2]
    rfl
  exact congrArg UInt32.toInt32 e2
def zDz (z : Int32) : Int32 := z * 1103515245 + 12345
theorem zSd_or (z : Int32) : ∃ f, f < 24 ∧ zRem (zUsh z 9) 24 = nI f := by
  obtain ⟨m, hm, e⟩ := ush9 z
  exact ⟨m % 24, Nat.mod_lt _ (by omega), by rw [e]; exact pk_rem (d := 24) (by omega) (by omega) (by omega)⟩
/-- the first free seat from the one that z tells -/
def zFz (w : zVw) (z : Int32) : Int32 := zFf w (zRem (zUsh z 9) 24).toInt.toNat 0 24
def zDr (d : Int32 → Int32) : Nat → Nat → zVw → Int32 → zVw
  | _, 0, w, _ => w
  | p, e + 1, w, z => zDr d (p + 1) e (zMv w p (zFz w (d z))) (d z)
theorem zPig : ∀ (n m : Nat) (f : Nat → Nat), (∀ k, k < m → f k < n) → (∀ a b, a < m → b < m → f a = f b → a = b) → m ≤ n := by
  intro n
  induction n with
  | zero => intro m f h1 _; rcases Nat.eq_zero_or_pos m with h | h
            · omega
            · exact absurd (h1 0 h) (by omega)
  | succ n ih =>
    intro m f h1 h2
    rcases Nat.eq_zero_or_pos m with h | h
    · omega
    · obtain ⟨k, rfl⟩ : ∃ k, m = k + 1 := ⟨m - 1, by omega⟩
      have := ih k (fun a => if f a = n then f k else f a) (fun a ha => by
        have ha1 := h1 a (by omega)
        have hk1 := h1 k (by omega)
        by_cases hc : f a = n
        · rw [if_pos hc]
          have : f k ≠ n := fun e => by have := h2 a k (by omega) (by omega) (hc.trans e.symm); omega
          omega
        · rw [if_neg hc]; omega) (fun a b ha hb e => by
        by_cases ca : f a = n
        · rw [if_pos ca] at e
          by_cases cb : f b = n
          · exact h2 a b (by omega) (by omega) (ca.trans cb.symm)
          · rw [if_neg cb] at e
            have := h2 k b (by omega) (by omega) e
            omega
        · rw [if_neg ca] at e
          by_cases cb : f b = n
          · rw [if_pos cb] at e
            have := h2 a k (by omega) (by omega) e
            omega
          · rw [if_neg cb] at e
            exact h2 a b (by omega) (by omega) e)
      omega
section DR
variable {L : Nat} {xs : Nat → Int32} {E : zEv2} {s t n z : Nat} {J J1 J2 : zzJ} {w w' : zVw} {x y v off : Int32} {a r i h c k p : Nat}
theorem zFree (g : zGoodV w s) : ∃ k, k < 24 ∧ w 5 k = -1 := by
  have h8 := g.1
  refine Classical.byContradiction fun hn => ?_
  have all : ∀ k, k < 24 → ∃ i, i < s ∧ w 5 k = nI i ∧ w 4 i = nI k := fun k hk => (g.2.2.2 k hk).resolve_left (fun e => hn ⟨k, hk, e⟩)
  have := zPig 8 24 (fun k => (w 5 k).toInt.toNat) (fun k hk => by
    obtain ⟨i, hi, e, _⟩ := all k hk
    rw [e, i_nI (by omega)]
    omega) (fun a b ha hb e => by
    obtain ⟨i, hi, ea, ea4⟩ := all a ha
    obtain ⟨j, hj, eb, eb4⟩ := all b hb
    rw [ea, eb, i_nI (by omega), i_nI (by omega)] at e
    have : i = j := by omega
    subst this
    exact i_inj (by omega) (by omega) (ea4.symm.trans eb4))
  omega
theorem zFf_find (w : zVw) (f : Nat) : ∀ (e i : Nat), (∃ j, i ≤ j ∧ j < i + e ∧ w 5 ((f + j) % 24) = -1) → ∃ q, q < 24 ∧ zFf w f i e = nI q ∧ w 5 q = -1 := by
  intro e
  induction e with
  | zero => intro i ⟨j, h1, h2, _⟩; omega
  | succ e ih =>
    intro i ⟨j, h1, h2, h3⟩
    rw [zFf]
    by_cases hc : w 5 ((f + i) % 24) = -1
    · rw [if_pos hc]
      exact ⟨_, Nat.mod_lt _ (by omega), rfl, hc⟩
    · rw [if_neg hc]
      have : j ≠ i := fun e => hc (by rw [← e]; exact h3)
      exact ih (i + 1) ⟨j, by omega, by omega, h3⟩
theorem zFf_ok {f : Nat} (g : zGoodV w s) (hf : f < 24) : ∃ q, q < 24 ∧ zFf w f 0 24 = nI q ∧ w 5 q = -1 := by
  obtain ⟨k, hk, e⟩ := zFree g
  refine zFf_find w f 24 0 ⟨(k + 24 - f) % 24, by omega, by omega, ?_⟩
  rw [show (f + (k + 24 - f) % 24) % 24 = k by omega]
  exact e
theorem zFz_ok (g : zGoodV w s) (z : Int32) : ∃ q, q < 24 ∧ zFz w z = nI q ∧ w 5 q = -1 := by
  obtain ⟨f, hf, e⟩ := zSd_or z
  unfold zFz
  rw [e, i_nI (by omega)]
  exact zFf_ok g hf
theorem zFz_op (g : zGoodV w s) (z : Int32) (i : Nat) : zOpen w i (zFz w z) := by
  obtain ⟨q, hq, e, h5⟩ := zFz_ok g z
  exact Or.inr ⟨q, hq, e, Or.inl h5⟩
theorem zDr_0 {d : Int32 → Int32} : ∀ (e p : Nat) (w : zVw) (z : Int32), r < 4 → zDr d p e w z r = w r := by
  intro e
  induction e with
  | zero => intro p w z _; rfl
  | succ e ih => intro p w z hr; rw [zDr, ih _ _ _ hr, zMv_0 hr]
theorem zDr_g {d : Int32 → Int32} : ∀ (e p : Nat) (w : zVw) (z : Int32), p + e ≤ s → zGoodV w s → zGoodV (zDr d p e w z) s := by
  intro e
  induction e with
  | zero => intro p w z _ g; exact g
  | succ e ih => intro p w z hp g; exact ih _ _ _ (by omega) (zMv_good g (by omega) (zFz_op g _ p))
abbrev zDn (E : zEv2) (w : zVw) (t s : Nat) (x : Int32) : Int32 := zDin E (zDr zDz 0 s (zStd w s) x) t s
theorem t_drawn (g : zGoodV w s) (ht : w 0 3 = nI t) (htn : t < n) {J0 : zzJ} (c : zCx E n w J0) (x : Int32) : ∃ J1, F_X6_drawn x J0 = some (zDn E w t s x, J1) ∧ zFrC J0 J1 := by
  have h8 := g.1
  obtain ⟨Ja, ea, va, fa⟩ := t_now c
  have two : ∀ Jb : zzJ, zVe (zStd w s) (zW 14 Jb) → zFrC J0 Jb → ∃ J1, F_X6_drawn_43 4096 x 0 Jb = some (zDn E w t s x, J1) ∧ zFrC J0 J1 := by
    intro Jb vb fb
    unfold zDn
    generalize hT : zDr zDz 0 s (zStd w s) x = T
    refine zLoop (G := fun fu (q : Nat × Int32 × zzJ) => F_X6_drawn_43 fu q.2.1 (nI q.1) q.2.2) (P := fun k q => q.1 = k ∧ (∃ w1, zVe w1 (zW 14 q.2.2) ∧ zGoodV w1 s ∧ zDr zDz k (s - k) w1 q.2.1 = T) ∧ zFrC J0 q.2.2) (Q := fun r => ∃ J1, r = some (zDin E T t s, J1) ∧ zFrC J0 J1) (s := s) ?_ s 0 (0, x, Jb) (by omega) ⟨rfl, ⟨_, vb, zStd_g g (Nat.le_refl s), hT⟩, fb⟩ 4096 (by omega)
    rintro k ⟨k2, z, J'⟩ hk ⟨rfl, ⟨w1, v1, g1, hP⟩, fr⟩
    dsimp only at hk v1 hP fr ⊢
    have hm : J'.2 14 4 = nI s := (v1.1 4 (by omega) (by omega)).trans g1.2.1
    by_cases hlt : k2 < s
    · right
      rw [show s - k2 = (s - (k2 + 1)) + 1 by omega, zDr] at hP
      have op := zFz_op g1 (zDz z) k2
      obtain ⟨J3, e3, v3, f3⟩ := t_mvt (q := zFz w1 (zDz z)) v1 g1 hlt op.ok
      obtain ⟨f, hf, ef⟩ := zSd_or (zDz z)
      have e1 : F_X0_firstFreeFrom 14 (zRem (zUsh (zDz z) 9) 24) J' = some (zFz w1 (zDz z), J') := by
        have := t_free (fr := f) zC14 v1 (by omega)
        unfold zFz
        rw [ef, i_nI (by omega)]
        exact this
      refine ⟨hlt, (k2 + 1, zDz z, J3), ⟨rfl, ⟨_, v3, zMv_good g1 hlt op, hP⟩, fr.tr f3⟩, fun fu => ?_⟩
      have st : F_X6_drawn_43 (fu + 1) z (nI k2) J' = (Option.bind (F_X0_firstFreeFrom 14 (zRem (zUsh (zDz z) 9) 24) J') fun q3 => (Option.bind (F_X0_move 14 (nI k2) q3.1 q3.2) fun q4 => F_X6_drawn_43 fu (zDz z) (nI k2 + 1) q4)) := by
        rw [F_X6_drawn_43, hm, if_pos ((i_lts (by omega) (by omega)).2 hlt)]
        rfl
      rw [st, e1, Option.bind_some]
      dsimp only
      rw [e3, Option.bind_some, ← nI_succ]
    · left
      rw [show s - k2 = 0 by omega] at hP
      have hP : w1 = T := hP
      subst hP
      obtain ⟨hh0, hh3⟩ : w1 0 4 = nI s ∧ w1 0 3 = nI t := ⟨g1.2.1, by rw [← hT, zDr_0 _ _ _ _ (by omega), zStd_0 (by omega)]; exact ht⟩
      obtain ⟨J4, e4, f4, _⟩ := t_dint (E := E) (n := n) v1 hh0 h8 hh3 htn (c.fr fr).2
      refine ⟨_, ⟨J4, rfl, fr.tr f4⟩, fun fu => ?_⟩
      rw [F_X6_drawn_43, hm, if_neg (fun q => hlt ((i_lts (by omega) (by omega)).1 q)), e4]
      rfl
  have one : ∃ J1, F_X6_drawn_13 4096 x 0 Ja = some (zDn E w t s x, J1) ∧ zFrC J0 J1 := by
    refine zLoop (G := fun fu (q : Nat × zzJ) => F_X6_drawn_13 fu x (nI q.1) q.2) (P := fun k q => q.1 = k ∧ zVe (zStd w k) (zW 14 q.2) ∧ zFrC J0 q.2) (Q := fun r => ∃ J1, r = some (zDn E w t s x, J1) ∧ zFrC J0 J1) (s := s) ?_ s 0 (0, Ja) (by omega) ⟨rfl, va, fa⟩ 4096 (by omega)
    rintro k ⟨k2, J'⟩ hk ⟨rfl, v1, fr⟩
    dsimp only at hk v1 fr ⊢
    have g1 := zStd_g g hk
    have hm : J'.2 14 4 = nI s := (v1.1 4 (by omega) (by omega)).trans g1.2.1
    by_cases hlt : k2 < s
    · right
      obtain ⟨J3, e3, v3, f3⟩ := t_mvt (q := -1) v1 g1 hlt (Or.inl rfl)
      refine ⟨hlt, (k2 + 1, J3), ⟨rfl, v3, fr.tr f3⟩, fun fu => ?_⟩
      rw [F_X6_drawn_13, hm, if_pos ((i_lts (by omega) (by omega)).2 hlt), e3, Option.bind_some, ← nI_succ]
    · left
      obtain rfl : k2 = s := by omega
      obtain ⟨J4, e4, f4⟩ := two J' v1 fr
      refine ⟨_, ⟨J4, rfl, f4⟩, fun fu => ?_⟩
      rw [F_X6_drawn_13, hm, if_neg (fun q => hlt ((i_lts (by omega) (by omega)).1 q))]
      exact e4
  obtain ⟨J1, e1, f1⟩ := one
  refine ⟨J1, ?_, f1⟩
  unfold F_X6_drawn
  rw [ea, Option.bind_some]
  exact e1
/-- all sit again as seatsWas tells -/
theorem m_again (g : zGoodV w s) {J0 : zzJ} (g' : zGoodV w' s) (ti : zTieV J0 w' s) (hr : ∀ r, r < 4 → w' r = w r) (h58 : ∀ j, j < s → J0.2 58 j = w 4 j) : ∃ J1, F_X7_sitsAgain J0 = some J1 ∧ zTieV J1 w s ∧ J1.1 = J0.1 ∧ ∀ b, b ≠ 53 → b ≠ 54 → J1.2 b = J0.2 b := by
  have h8 := g.1
  obtain ⟨Ja, ea, ta, aa, ba⟩ := r_stand (J := J0) (G := fun f k J => F_X7_sitsAgain_2 f (nI k) J) (K := fun J => F_X7_sitsAgain_24 4096 0 J) (fun f k J J' hm hk hs => by
    show F_X7_sitsAgain_2 (f + 1) (nI k) J = F_X7_sitsAgain_2 f (nI (k + 1)) J'
    rw [F_X7_sitsAgain_2, hm, if_pos ((i_lts (by omega) (by omega)).2 hk), hs, ← nI_succ]
    rfl) (fun f J hm => by
    show F_X7_sitsAgain_2 (f + 1) (nI s) J = _
    rw [F_X7_sitsAgain_2, hm, if_neg (fun e => absurd ((i_lts (by omega) (by omega)).1 e) (by omega))]) g' ti
  obtain ⟨rA, rB⟩ := zRe_A g
  have h58' : ∀ j, j < s → Ja.2 58 j = w 4 j := fun j hj => by rw [ba 58 (by omega) (by omega)]; exact h58 j hj
  have lp : ∃ J1, F_X7_sitsAgain_24 4096 0 Ja = some J1 ∧ J1.1 = Ja.1 ∧ (∀ b, b ≠ 53 → b ≠ 54 → J1.2 b = Ja.2 b) ∧ zRe (w 4) s s (J1.2 53) (J1.2 54) := by
    refine zLoop (G := fun fu (q : Nat × zzJ) => F_X7_sitsAgain_24 fu (nI q.1) q.2) (P := fun k q => q.1 = k ∧ q.2.1 = Ja.1 ∧ (∀ b, b ≠ 53 → b ≠ 54 → q.2.2 b = Ja.2 b) ∧ zRe (w 4) s k (q.2.2 53) (q.2.2 54)) (Q := fun r => ∃ J1, r = some J1 ∧ J1.1 = Ja.1 ∧ (∀ b, b ≠ 53 → b ≠ 54 → J1.2 b = Ja.2 b) ∧ zRe (w 4) s s (J1.2 53) (J1.2 54)) (s := s) ?_ s 0 (0, Ja) (by omega) ⟨rfl, rfl, fun _ _ _ => rfl, zRe_0 g' ta (w 4) (Nat.le_refl s)⟩ 4096 (by omega)
    rintro k ⟨k2, J'⟩ hk ⟨rfl, a1, b1, c1⟩
    dsimp only at hk a1 b1 c1 ⊢
    have hm : J'.2 46 14 = nI s := by rw [b1 46 (by omega) (by omega)]; exact r_many (zStd_g g' (Nat.le_refl s)) ta
    by_cases hlt : k2 < s
    · right
      obtain ⟨J3, e3, a3, b3, c3⟩ := zRe_step (J := J') (fun i j q hi hj hq => rA i j q hi hj hq) (rB k2 hlt) h8 hlt c1
      refine ⟨hlt, (k2 + 1, J3), ⟨rfl, a3.trans a1, fun b h1 h2 => (b3 b h1 h2).trans (b1 b h1 h2), c3⟩, fun fu => ?_⟩
      rw [F_X7_sitsAgain_24, hm, if_pos ((i_lts (by omega) (by omega)).2 hlt), if_pos (i_ix (by omega) (by omega)), i_cm (by omega), b1 58 (by omega) (by omega), h58' k2 hlt, e3, Option.bind_some, ← nI_succ]
    · left
      obtain rfl : k2 = s := by omega
      refine ⟨_, ⟨J', rfl, a1, b1, c1⟩, fun fu => ?_⟩
      rw [F_X7_sitsAgain_24, hm, if_neg (fun q => hlt ((i_lts (by omega) (by omega)).1 q))]
  obtain ⟨J1, e1, a1, b1, c1⟩ := lp
  have re := zRe_end g c1
  have z0 : ∀ r, r < 4 → zStd w' s r = w r := fun r hr' => by rw [zStd_0 hr', hr r hr']
  refine ⟨J1, ?_, ⟨fun j hj => ⟨?_, ?_, ?_, re.1 j hj⟩, re.2, ?_, ?_, ?_, ?_⟩, a1.trans aa, fun b h1 h2 => (b1 b h1 h2).trans (ba b h1 h2)⟩
  · exact ea.trans e1
  · rw [b1 50 (by omega) (by omega), (ta.1 j hj).1, z0 1 (by omega)]
  · rw [b1 51 (by omega) (by omega), (ta.1 j hj).2.1, z0 2 (by omega)]
  · rw [b1 52 (by omega) (by omega), (ta.1 j hj).2.2.1, z0 3 (by omega)]
  · rw [b1 46 (by omega) (by omega), ta.2.2.1, z0 0 (by omega)]
  · rw [b1 46 (by omega) (by omega), ta.2.2.2.1, z0 0 (by omega)]
  · rw [b1 46 (by omega) (by omega), ta.2.2.2.2.1, z0 0 (by omega)]
  · rw [b1 46 (by omega) (by omega), ta.2.2.2.2.2, z0 0 (by omega)]
theorem m_stands (g : zGoodV w s) {J0 : zzJ} (c : zRx E n s w J0) : ∃ J1, F_X7_stands J0 = some J1 ∧ zRx E n s w J1 ∧ zFrR J0 J1 ∧ ∀ j, j < s → J1.2 58 j = w 4 j := by
  have h8 := g.1
  refine zLoop (G := fun fu (q : Nat × zzJ) => F_X7_stands_2 fu (nI q.1) q.2) (P := fun k q => q.1 = k ∧ zRx E n s w q.2 ∧ zFrR J0 q.2 ∧ ∀ j, j < k → q.2.2 58 j = w 4 j) (Q := fun r => ∃ J1, r = some J1 ∧ zRx E n s w J1 ∧ zFrR J0 J1 ∧ ∀ j, j < s → J1.2 58 j = w 4 j) (s := s) ?_ s 0 (0, J0) (by omega) ⟨rfl, c, zFrR.rf, fun j hj => absurd hj (by omega)⟩ 4096 (by omega)
  rintro k ⟨k2, J'⟩ hk ⟨rfl, c', fr, hz⟩
  dsimp only at hk c' fr hz ⊢
  have hm := r_many g c'.1
  by_cases hlt : k2 < s
  · right
    refine ⟨hlt, (k2 + 1, wI J' 58 k2 (w 4 k2)), ⟨rfl, zRx.w5 (by omega) c', fr.tr (zFrR.w5 (by omega)), fun j hj => ?_⟩, fun fu => ?_⟩
    · dsimp only
      rw [wI_g]
      by_cases hj2 : j = k2
      · rw [if_pos hj2, hj2]
      · rw [if_neg hj2]; exact hz j (by omega)
    · rw [F_X7_stands_2, hm, if_pos ((i_lts (by omega) (by omega)).2 hlt), if_pos (i_ix (by omega) (by omega)), if_pos (i_ix (by omega) (by omega)), i_cm (by omega), (c'.1.1 k2 hlt).2.2.2, ← nI_succ]
  · left
    obtain rfl : k2 = s := by omega
    refine ⟨_, ⟨J', rfl, c', fr, hz⟩, fun fu => ?_⟩
    rw [F_X7_stands_2, hm, if_neg (fun q => hlt ((i_lts (by omega) (by omega)).1 q))]
theorem m_din57 {w1 : zVw} {f : Nat} {z : Int32} (g : zGoodV w1 s) (ti : zTieV J w1 s) (hf : f < 24) (hp : p < s) (J3 : zzJ) (e3 : F_X7_seats (nI p) (zFf w1 f 0 24) J = some J3) : (fun kl => F_X7_dinBy_57 kl 4096 z (nI p) (nI f) J) = fun kl => kl z (nI (p + 1)) J3 := by
  have h8 := g.1
  obtain ⟨q0, hq0, eq0, _⟩ := zFf_ok g hf
  refine zLoop (G := fun fu (i : Nat) => fun kl => F_X7_dinBy_57 kl fu z (nI p) (nI ((f + i) % 24)) J) (P := fun k i => i = k ∧ zFf w1 f k (24 - k) = nI q0) (Q := fun r => r = fun kl => kl z (nI (p + 1)) J3) (s := 24) ?_ 24 0 0 (by omega) ⟨rfl, eq0⟩ 4096 (by omega) |> fun h => by
    rw [show (f + 0) % 24 = f by omega] at h
    exact h
  rintro k i hk ⟨rfl, hP⟩
  by_cases hlt : i < 24
  · rw [show 24 - i = (24 - (i + 1)) + 1 by omega, zFf] at hP
    have hx : zzIx (nI ((f + i) % 24)) 24 := i_ix (Nat.mod_lt _ (by omega)) (by omega)
    have hc : (nI ((f + i) % 24)).toNatClampNeg = (f + i) % 24 := i_cm (by have := Nat.mod_lt (f + i) (show 24 > 0 by omega); omega)
    have s5 : J.2 54 ((f + i) % 24) = w1 5 ((f + i) % 24) := ti.2.1 _ (Nat.mod_lt _ (by omega))
    by_cases hw : w1 5 ((f + i) % 24) = -1
    · left
      rw [if_pos hw] at hP
      refine ⟨_, rfl, fun fu => ?_⟩
      funext kl
      rw [F_X7_dinBy_57, if_pos hx]
      simp only [hc, s5, if_pos hw]
      rw [hP, ← eq0, e3, Option.bind_some, ← nI_succ]
    · right
      rw [if_neg hw] at hP
      refine ⟨hlt, i + 1, ⟨rfl, hP⟩, fun fu => ?_⟩
      funext kl
      rw [F_X7_dinBy_57, if_pos hx]
      simp only [hc, s5, if_neg hw]
      rw [nI_1, rem24 (by have := Nat.mod_lt (f + i) (show 24 > 0 by omega); omega), show ((f + i) % 24 + 1) % 24 = (f + (i + 1)) % 24 by omega]
  · left
    rw [show 24 - i = 0 by omega] at hP
    exact absurd hP.symm (i_nm1 (by omega))
theorem m_dinBy (g : zGoodV w s) (ht : w 0 3 = nI t) (htn : t < n) {J0 : zzJ} (c : zRx E n s w J0) (x : Int32) : ∃ J1, F_X7_dinBy x J0 = some (zDn E w t s x, J1) ∧ zRx E n s w J1 ∧ zFrR J0 J1 := by
  have h8 := g.1
  obtain ⟨Ja, ea, ca, fa, ha⟩ := m_stands g c
  have two : ∀ Jb : zzJ, zTieV Jb (zStd w s) s → zFrR J0 Jb → (∀ j, j < s → Jb.2 58 j = w 4 j) → ∃ J1, F_X7_dinBy_30 4096 x 0 Jb = some (zDn E w t s x, J1) ∧ zRx E n s w J1 ∧ zFrR J0 J1 := by
    intro Jb tb fb hb
    unfold zDn
    generalize hT : zDr zDz 0 s (zStd w s) x = T
    refine zLoop (G := fun fu (q : Nat × Int32 × zzJ) => F_X7_dinBy_30 fu q.2.1 (nI q.1) q.2.2) (P := fun k q => q.1 = k ∧ (∃ w1, zTieV q.2.2 w1 s ∧ zGoodV w1 s ∧ (∀ r, r < 4 → w1 r = w r) ∧ zDr zDz k (s - k) w1 q.2.1 = T) ∧ zFrR J0 q.2.2 ∧ ∀ j, j < s → q.2.2.2 58 j = w 4 j) (Q := fun r => ∃ J1, r = some (zDin E T t s, J1) ∧ zRx E n s w J1 ∧ zFrR J0 J1) (s := s) ?_ s 0 (0, x, Jb) (by omega) ⟨rfl, ⟨_, tb, zStd_g g (Nat.le_refl s), fun r hr => zStd_0 hr, hT⟩, fb, hb⟩ 4096 (by omega)
    rintro k ⟨k2, z, J'⟩ hk ⟨rfl, ⟨w1, t1, g1, hr, hP⟩, fr, h58⟩
    dsimp only at hk t1 hP fr h58 ⊢
    have hm := r_many g1 t1
    by_cases hlt : k2 < s
    · right
      rw [show s - k2 = (s - (k2 + 1)) + 1 by omega, zDr] at hP
      have op := zFz_op g1 (zDz z) k2
      obtain ⟨J3, e3, t3, a3, b3⟩ := m_seats (q := zFz w1 (zDz z)) g1 t1 hlt op.ok
      obtain ⟨f, hf, ef⟩ := zSd_or (zDz z)
      have ez : zFz w1 (zDz z) = zFf w1 f 0 24 := by
        unfold zFz
        rw [ef, i_nI (by omega)]
        rfl
      rw [ez] at e3
      have e57 := m_din57 (z := zDz z) g1 t1 hf hlt J3 e3
      refine ⟨hlt, (k2 + 1, zDz z, J3), ⟨rfl, ⟨_, t3, zMv_good g1 hlt op, fun r h => (zMv_0 h).trans (hr r h), hP⟩, fr.tr (zFrR.mv a3 b3), fun j hj => by dsimp only; rw [b3 58 (by omega) (by omega)]; exact h58 j hj⟩, fun fu => ?_⟩
      have st : F_X7_dinBy_30 (fu + 1) z (nI k2) J' = F_X7_dinBy_57 (F_X7_dinBy_30 fu) 4096 (zDz z) (nI k2) (zRem (zUsh (zDz z) 9) 24) J' := by
        rw [F_X7_dinBy_30, hm, if_pos ((i_lts (by omega) (by omega)).2 hlt)]
        rfl
      rw [st, ef]
      exact congrFun e57 _
    · left
      rw [show s - k2 = 0 by omega] at hP
      have hP : w1 = T := hP
      subst hP
      have tx : zTxR E n (J'.2 47) (J'.2 48) := by rw [fr.1 47 (by omega) (by omega), fr.1 48 (by omega) (by omega)]; exact c.2
      obtain ⟨J4, e4, l4⟩ := r_din g1 t1 tx ((congrFun (hr 0 (by omega)) 3).trans ht) htn
      obtain ⟨J5, e5, t5, a5, b5⟩ := m_again g g1 (l4.tie t1) hr (fun j hj => by rw [l4.1 58 (by omega)]; exact h58 j hj)
      have f5 := (fr.tr l4.fr).tr (zFrR.mv a5 b5)
      refine ⟨_, ⟨J5, rfl, c.fr f5 t5, f5⟩, fun fu => ?_⟩
      rw [F_X7_dinBy_30, hm, if_neg (fun q => hlt ((i_lts (by omega) (by omega)).1 q)), e4, Option.bind_some]
      dsimp only
      rw [e5]
      rfl
  obtain ⟨Jb, eb, tb, ab, bb⟩ := r_stand (J := Ja) (G := fun f k J => F_X7_dinBy_6 f x (nI k) J) (K := fun J => F_X7_dinBy_30 4096 x 0 J) (fun f k J J' hm hk hs => by
    show F_X7_dinBy_6 (f + 1) x (nI k) J = F_X7_dinBy_6 f x (nI (k + 1)) J'
    rw [F_X7_dinBy_6, hm, if_pos ((i_lts (by omega) (by omega)).2 hk), hs, ← nI_succ]
    rfl) (fun f J hm => by
    show F_X7_dinBy_6 (f + 1) x (nI s) J = _
    rw [F_X7_dinBy_6, hm, if_neg (fun e => absurd ((i_lts (by omega) (by omega)).1 e) (by omega))]) g ca.1
  obtain ⟨J1, e1, c1, f1⟩ := two Jb tb (fa.tr (zFrR.mv ab bb)) (fun j hj => by rw [bb 58 (by omega) (by omega)]; exact ha j hj)
  refine ⟨J1, ?_, c1, f1⟩
  unfold F_X7_dinBy
  rw [ea, Option.bind_some]
  exact eb.trans e1
theorem c_drawn (I : zInv L xs E s t n z J) : zAns L xs (F_X6_drawn x) (F_X7_drawn x) J := by
  obtain ⟨g, h8, ht, htn, h4, hC, hR⟩ := inv_d I
  obtain ⟨J1, e1, f1⟩ := t_drawn g ht htn (⟨zVe.rf, hC⟩ : zCx E n (zW 7 J) J) x
  refine zAns.q I _ ⟨J1, e1, f1⟩ (fun J1 I1 ti => ?_)
  obtain ⟨J2, e2, c2, f2⟩ := m_dinBy g ht htn (⟨ti, (inv_d I1).2.2.2.2.2.2⟩ : zRx E n s (zW 7 J) J1) x
  refine ⟨J2, ?_, f2, c2.1⟩
  unfold F_X7_drawn
  rw [e2]
  rfl
end DR
