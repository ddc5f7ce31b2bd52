/-! passengers by a sheet; film -/
section PA
variable {L : Nat} {xs : Nat → Int32} {E : zEv2} {s t n z : Nat} {J J1 J2 : zzJ} {w w' : zVw} {x y v u q : Int32} {a r i : Nat}
/-- those who come, two numbers of a row each: the answer, the view, how many then -/
def zPg (it : Nat → Int32) (a m : Nat) : Nat → Nat → zVw → Nat → Nat → Int32 × zVw × Nat
  | _, 0, w, s, c => (nI c, w, s)
  | k, e + 1, w, s, c => if a + 2 * k + 2 ≤ m then zPg it a m (k + 1) e (zPw w (it (a + 2 * k)) (it (a + 2 * k + 1)) s) (zPs (it (a + 2 * k)) (it (a + 2 * k + 1)) s) (if zPv (it (a + 2 * k)) (it (a + 2 * k + 1)) s < 0 then c else c + 1) else (-12, w, s)
theorem t_come {m b : Nat} {it : Nat → Int32} (hi : i < 4) (hm : m ≤ 40) (ha : a ≤ 40) (hb : b ≤ 8) (hit : ∀ k, k < m → J.2 (39 + 2 * i) k = it k) (hs1 : J.2 (38 + 2 * i) 1 = nI m) (v0 : zVe w (zW 7 J)) (g0 : zGoodV w s) : ∃ J1, F_X6_passengers_73 4096 (nI a) (nI b) (38 + 2 * i) 0 0 J = some ((zPg it a m 0 b w s 0).1, J1) ∧ zVe (zPg it a m 0 b w s 0).2.1 (zW 7 J1) ∧ zGoodV (zPg it a m 0 b w s 0).2.1 (zPg it a m 0 b w s 0).2.2 ∧ J1.1 = J.1 ∧ ∀ c, (c < 7 ∨ 11 < c) → J1.2 c = J.2 c := by
  generalize hT : zPg it a m 0 b w s 0 = T
  refine zLoop (G := fun f (p : Nat × Nat × zzJ) => F_X6_passengers_73 f (nI a) (nI b) (38 + 2 * i) (nI p.2.1) (nI p.1) p.2.2) (P := fun k p => p.1 = k ∧ p.2.1 ≤ k ∧ (∃ w1 s1, zVe w1 (zW 7 p.2.2) ∧ zGoodV w1 s1 ∧ zPg it a m k (b - k) w1 s1 p.2.1 = T) ∧ p.2.2.1 = J.1 ∧ ∀ c, (c < 7 ∨ 11 < c) → p.2.2.2 c = J.2 c) (Q := fun r => ∃ J1, r = some (T.1, J1) ∧ zVe T.2.1 (zW 7 J1) ∧ zGoodV T.2.1 T.2.2 ∧ J1.1 = J.1 ∧ ∀ c, (c < 7 ∨ 11 < c) → J1.2 c = J.2 c) (s := b) ?_ b 0 (0, 0, J) (by omega) ⟨rfl, Nat.le_refl _, ⟨w, s, v0, g0, hT⟩, rfl, fun _ _ => rfl⟩ 4096 (by omega)
  rintro k ⟨k2, c, J'⟩ hk ⟨rfl, hc, ⟨w1, s1, v1, g1, hP⟩, f1, f2⟩
  dsimp only at hk hc v1 hP f1 f2 ⊢
  by_cases h : k2 < b
  · rw [show b - k2 = (b - (k2 + 1)) + 1 by omega, zPg] at hP
    have ei : nI a + 2 * nI k2 = nI (a + 2 * k2) := by rw [show (2 : Int32) = nI 2 from rfl, pk_mul, nI_add]
    have ei1 : nI a + 2 * nI k2 + 1 = nI (a + 2 * k2 + 1) := by rw [ei, nI_1]
    have hs2 : J'.2 (38 + 2 * i) 1 = nI m := by rw [f2 _ (by omega)]; exact hs1
    by_cases hin : a + 2 * k2 + 2 ≤ m
    · rw [if_pos hin] at hP
      obtain ⟨J3, e3, v3, a3, b3⟩ := t_pass (x := it (a + 2 * k2)) (y := it (a + 2 * k2 + 1)) v1 g1
      right
      refine ⟨h, (k2 + 1, (if zPv (it (a + 2 * k2)) (it (a + 2 * k2 + 1)) s1 < 0 then c else c + 1), J3), ⟨rfl, by dsimp only; split <;> omega, ⟨_, _, v3, g_pass g1, hP⟩, a3.trans f1, fun d hd => (b3 d hd).trans (f2 d hd)⟩, fun f => ?_⟩
      have i1 : zIt (J'.2 (39 + 2 * i)) 40 (nI (a + 2 * k2)) 0 = it (a + 2 * k2) := by rw [zIt_nI (by omega) (by omega), f2 _ (by omega)]; exact hit _ (by omega)
      have i2 : zIt (J'.2 (39 + 2 * i)) 40 (nI (a + 2 * k2 + 1)) 0 = it (a + 2 * k2 + 1) := by rw [zIt_nI (by omega) (by omega), f2 _ (by omega)]; exact hit _ (by omega)
      rw [F_X6_passengers_73, if_pos ((i_lts (by omega) (by omega)).2 h), if_pos (sh_k hi).1, ei1, ei, b_shas hi, hs2, Option.bind_some, zOne_t (by rw [i_nI (by omega), i_nI (by omega)]; omega)]
      refine (if_neg n10).trans ?_
      dsimp only
      rw [b_shas hi, hs2, Option.bind_some, zOne_t (by rw [i_nI (by omega), i_nI (by omega)]; omega)]
      refine (if_neg n10).trans ?_
      dsimp only
      rw [b_item hi, Option.bind_some]
      dsimp only
      rw [b_item hi, Option.bind_some, i1, i2]
      dsimp only
      rw [e3, Option.bind_some, nI_succ k2, nI_1 c]
      dsimp only
      split <;> rfl
    · rw [if_neg hin] at hP
      left
      refine ⟨_, ⟨J', by rw [← hP], by rw [← hP]; exact v1, by rw [← hP]; exact g1, f1, f2⟩, fun f => ?_⟩
      rw [F_X6_passengers_73, if_pos ((i_lts (by omega) (by omega)).2 h), if_pos (sh_k hi).1, ei1, ei, b_shas hi, hs2, Option.bind_some]
      by_cases h1 : a + 2 * k2 < m
      · rw [zOne_t (by rw [i_nI (by omega), i_nI (by omega)]; omega)]
        refine (if_neg n10).trans ?_
        dsimp only
        rw [b_shas hi, hs2, Option.bind_some, zOne_f (by rw [i_nI (by omega), i_nI (by omega)]; omega)]
        exact if_pos rfl
      · rw [zOne_f (by rw [i_nI (by omega), i_nI (by omega)]; omega)]
        exact if_pos rfl
  · left
    rw [show b - k2 = 0 by omega] at hP
    refine ⟨_, ⟨J', by rw [← hP], by rw [← hP]; exact v1, by rw [← hP]; exact g1, f1, f2⟩, fun f => ?_⟩
    rw [F_X6_passengers_73, if_neg (fun e => h ((i_lts (by omega) (by omega)).1 e))]
    rfl
theorem m_come {m b : Nat} {it : Nat → Int32} (hi : i < 4) (hm : m ≤ 40) (ha : a ≤ 40) (hb : b ≤ 8) (hit : ∀ k, k < m → J.2 65 (40 * i + k) = it k) (hs1 : J.2 64 i = nI m) (t0 : zTieV J w s) (g0 : zGoodV w s) : ∃ J1, F_X7_passengers_75 4096 (nI i) (nI a) (nI b) 0 0 J = some ((zPg it a m 0 b w s 0).1, J1) ∧ zTieV J1 (zPg it a m 0 b w s 0).2.1 (zPg it a m 0 b w s 0).2.2 ∧ J1.1 = J.1 ∧ (∀ c, c ≠ 46 → (c < 50 ∨ 53 < c) → J1.2 c = J.2 c) ∧ ∀ k, k ≠ 14 → J1.2 46 k = J.2 46 k := by
  generalize hT : zPg it a m 0 b w s 0 = T
  have hx4 : zzIx (nI i) 4 := i_ix (by omega) (by omega)
  have hc4 : (nI i).toNatClampNeg = i := i_cm (by omega)
  have ha0 : ¬ nI a < (0 : Int32) := by rw [i_lt, i_nI (by omega)]; show ¬ (a : Int) < 0; omega
  refine zLoop (G := fun f (p : Nat × Nat × zzJ) => F_X7_passengers_75 f (nI i) (nI a) (nI b) (nI p.2.1) (nI p.1) p.2.2) (P := fun k p => p.1 = k ∧ p.2.1 ≤ k ∧ (∃ w1 s1, zTieV p.2.2 w1 s1 ∧ zGoodV w1 s1 ∧ zPg it a m k (b - k) w1 s1 p.2.1 = T) ∧ p.2.2.1 = J.1 ∧ (∀ c, c ≠ 46 → (c < 50 ∨ 53 < c) → p.2.2.2 c = J.2 c) ∧ ∀ k, k ≠ 14 → p.2.2.2 46 k = J.2 46 k) (Q := fun r => ∃ J1, r = some (T.1, J1) ∧ zTieV J1 T.2.1 T.2.2 ∧ J1.1 = J.1 ∧ (∀ c, c ≠ 46 → (c < 50 ∨ 53 < c) → J1.2 c = J.2 c) ∧ ∀ k, k ≠ 14 → J1.2 46 k = J.2 46 k) (s := b) ?_ b 0 (0, 0, J) (by omega) ⟨rfl, Nat.le_refl _, ⟨w, s, t0, g0, hT⟩, rfl, fun _ _ _ => rfl, fun _ _ => rfl⟩ 4096 (by omega)
  rintro k ⟨k2, c, J'⟩ hk ⟨rfl, hc, ⟨w1, s1, v1, g1, hP⟩, f1, f2, f3⟩
  dsimp only at hk hc v1 hP f1 f2 f3 ⊢
  by_cases h : k2 < b
  · rw [show b - k2 = (b - (k2 + 1)) + 1 by omega, zPg] at hP
    have ei : (40 : Int32) * nI i + nI a + 2 * nI k2 = nI (40 * i + (a + 2 * k2)) := by rw [ix_40, show (2 : Int32) = nI 2 from rfl, pk_mul, nI_add, show 40 * i + a + 2 * k2 = 40 * i + (a + 2 * k2) by omega]
    have ei1 : nI (40 * i + (a + 2 * k2)) + 1 = nI (40 * i + (a + 2 * k2 + 1)) := by rw [nI_1, show 40 * i + (a + 2 * k2) + 1 = 40 * i + (a + 2 * k2 + 1) by omega]
    have hs2 : J'.2 64 i = nI m := by rw [f2 _ (by omega) (by omega)]; exact hs1
    have ecmp : (nI m - 2 * nI k2 - 2 < nI a) ↔ ¬ a + 2 * k2 + 2 ≤ m := by
      have e2 : (2 : Int32) * nI k2 = nI (2 * k2) := by rw [show (2 : Int32) = nI 2 from rfl, pk_mul]
      have e3 : (nI m - nI (2 * k2)).toInt = (m : Int) - (2 * k2 : Nat) := pk_sub_toInt (by omega) (by omega)
      have e4 : (nI m - nI (2 * k2) - 2).toInt = (m : Int) - (2 * k2 : Nat) - 2 := by
        have e5 : (2 : Int32).toInt = 2 := rfl
        rw [fb_subI (by omega) (by omega), e3, e5]
      rw [e2, i_lt, e4, i_nI (by omega)]
      omega
    by_cases hin : a + 2 * k2 + 2 ≤ m
    · rw [if_pos hin] at hP
      obtain ⟨J3, e3, v3, a3, b3, c3⟩ := m_pass (x := it (a + 2 * k2)) (y := it (a + 2 * k2 + 1)) g1 v1
      right
      refine ⟨h, (k2 + 1, (if zPv (it (a + 2 * k2)) (it (a + 2 * k2 + 1)) s1 < 0 then c else c + 1), J3), ⟨rfl, by dsimp only; split <;> omega, ⟨_, _, v3, g_pass g1, hP⟩, a3.trans f1, fun d h1 h2 => (b3 d h1 h2).trans (f2 d h1 h2), fun d hd => (c3 d hd).trans (f3 d hd)⟩, fun f => ?_⟩
      have i1 : J'.2 65 (40 * i + (a + 2 * k2)) = it (a + 2 * k2) := by rw [f2 _ (by omega) (by omega)]; exact hit _ (by omega)
      have i2 : J'.2 65 (40 * i + (a + 2 * k2 + 1)) = it (a + 2 * k2 + 1) := by rw [f2 _ (by omega) (by omega)]; exact hit _ (by omega)
      rw [F_X7_passengers_75, if_pos ((i_lts (by omega) (by omega)).2 h), if_neg ha0, if_pos hx4, hc4, hs2, if_neg (fun e => ecmp.1 e hin), ei, if_pos (i_ix (by omega) (by omega)), ei1, if_pos (i_ix (by omega) (by omega)), i_cm (by omega), i_cm (by omega), i1, i2, e3, Option.bind_some, nI_succ k2, nI_1 c, Int32.add_zero]
      dsimp only
      split <;> rfl
    · rw [if_neg hin] at hP
      left
      refine ⟨_, ⟨J', by rw [← hP], by rw [← hP]; exact v1, f1, f2, f3⟩, fun f => ?_⟩
      rw [F_X7_passengers_75, if_pos ((i_lts (by omega) (by omega)).2 h), if_neg ha0, if_pos hx4, hc4, hs2, if_pos (ecmp.2 hin)]
  · left
    rw [show b - k2 = 0 by omega] at hP
    refine ⟨_, ⟨J', by rw [← hP], by rw [← hP]; exact v1, f1, f2, f3⟩, fun f => ?_⟩
    rw [F_X7_passengers_75, if_neg (fun e => h ((i_lts (by omega) (by omega)).1 e))]
    rfl
theorem zPg_1 {it : Nat → Int32} {m : Nat} : ∀ (e k : Nat) (w : zVw) (s c : Nat), s ≤ (zPg it a m k e w s c).2.2 ∧ (∀ j, j < s → (zPg it a m k e w s c).2.1 1 j = w 1 j) ∧ (zPg it a m k e w s c).2.1 0 3 = w 0 3 := by
  intro e
  induction e with
  | zero => intro k w s c; exact ⟨Nat.le_refl _, fun _ _ => rfl, rfl⟩
  | succ e ih =>
    intro k w s c
    rw [zPg]
    split
    · obtain ⟨p, q, r⟩ := ih (k + 1) (zPw w (it (a + 2 * k)) (it (a + 2 * k + 1)) s) (zPs (it (a + 2 * k)) (it (a + 2 * k + 1)) s) (if zPv (it (a + 2 * k)) (it (a + 2 * k + 1)) s < 0 then c else c + 1)
      have hle := zPs_le (x := it (a + 2 * k)) (y := it (a + 2 * k + 1)) (s := s)
      exact ⟨Nat.le_trans hle p, fun j hj => (q j (by omega)).trans (zPw_1 hj), r.trans zPw_3⟩
    · exact ⟨Nat.le_refl _, fun _ _ => rfl, rfl⟩
theorem c_passengers (I : zInv L xs E s t n z J) : zAns L xs (F_X6_passengers v x u y) (F_X7_passengers v x u y) J := by
  obtain ⟨g, h8, ht, htn, h4, hC, _⟩ := inv_d I
  have e0 : (0 : Int32).toInt = 0 := rfl
  have e2 : (2 : Int32).toInt = 2 := rfl
  have e8 : (8 : Int32).toInt = 8 := rfl
  by_cases hv : 0 ≤ v.toInt ∧ v.toInt < 4
  · obtain ⟨i, hi0, rfl⟩ := i_upto (x := v) (m := 3) (by omega) (by omega)
    have hi : i < 4 := by omega
    have hx4 : zzIx (nI i) 4 := i_ix (by omega) (by omega)
    have hc4 : (nI i).toNatClampNeg = i := i_cm (by omega)
    by_cases hok : (0 ≤ x.toInt ∧ x.toInt ≤ 2) ∧ 0 ≤ y.toInt ∧ y.toInt ≤ 8
    · obtain ⟨d, hd, rfl⟩ := i_upto (x := x) (m := 2) hok.1 (by omega)
      obtain ⟨b, hb, rfl⟩ := i_upto (x := y) (m := 8) hok.2 (by omega)
      have hd1 := hok.1
      have hb1 := hok.2
      have cl : ∀ r : Option (Int32 × zzJ), (Option.bind (F_X4_isMissing (38 + 2 * i) J) fun q22 => (if q22.1 = (0 : Int32) then (if (q22.2.2 (38 + 2 * i) 0) = nI d then F_X6_passengers_56 u (nI b) (38 + 2 * i) q22.2 else some ((-13 : Int32), q22.2)) else F_X6_passengers_56 u (nI b) (38 + 2 * i) q22.2)) = r → F_X6_passengers (nI i) (nI d) u (nI b) J = r := by
        intro r hr
        rw [← hr]
        unfold F_X6_passengers
        rw [b_sheet hi, Option.bind_some]
        dsimp only
        rw [if_neg (by rw [i_lt]; omega), if_neg (by rw [i_lt]; omega), if_neg (by rw [i_lt]; omega), if_neg (by rw [i_lt]; omega), if_pos (sh_k hi).1]
      have rf : ∀ (J1 : zzJ) (r : Option (Int32 × zzJ)), (if (J1.2 62 i) = (0 : Int32) then F_X7_passengers_57 (nI i) u (nI b) J1 else (if (J1.2 63 i) = nI d then F_X7_passengers_57 (nI i) u (nI b) J1 else some ((-13 : Int32), J1))) = r → F_X7_passengers (nI i) (nI d) u (nI b) J1 = r := by
        intro J1 r hr
        rw [← hr]
        unfold F_X7_passengers
        rw [r_isSheet, Option.bind_some, zOne_t hv]
        refine (if_neg n10).trans ?_
        rw [b_inI, Option.bind_some, zOne_t (by exact hd1)]
        refine (if_neg n10).trans ?_
        rw [b_inI, Option.bind_some, zOne_t (by exact hb1)]
        refine (if_neg n10).trans ?_
        simp only [if_pos hx4, hc4]
      rcases I.2.2.2.2.2 i hi with ⟨p, p2⟩ | ⟨d', m, hd', hm, s1, s2, s3, s4, s5, s6⟩
      · refine zAns.no (v := -11) I (cl _ ?_) (rf _ _ ?_)
        · rw [b_missing hi, Option.bind_some, zOne_t p]
          refine (if_neg n10).trans ?_
          unfold F_X6_passengers_56
          rw [if_pos (sh_k hi).1, b_missing hi, Option.bind_some, zOne_t p]
          exact if_neg n10
        · rw [if_pos p2]
          unfold F_X7_passengers_57
          rw [if_pos hx4, hc4, if_pos p2]
      · have nmi : ¬ J.2 (38 + 2 * i) 0 = -1 := by rw [s1]; exact i_nm1 (by omega)
        by_cases hdd : d' = d
        · subst hdd
          have cl2 : ∀ r : Option (Int32 × zzJ), F_X6_passengers_73 4096 u (nI b) (38 + 2 * i) 0 0 J = r → F_X6_passengers (nI i) (nI d') u (nI b) J = r := by
            intro r hr
            refine cl _ ?_
            rw [b_missing hi, Option.bind_some, zOne_f nmi]
            refine (if_pos rfl).trans ?_
            dsimp only
            rw [if_pos s1]
            unfold F_X6_passengers_56
            rw [if_pos (sh_k hi).1, b_missing hi, Option.bind_some, zOne_f nmi]
            exact (if_pos rfl).trans hr
          have rf2 : ∀ (J1 : zzJ) (r : Option (Int32 × zzJ)), J1.2 62 = J.2 62 → J1.2 63 = J.2 63 → F_X7_passengers_75 4096 (nI i) u (nI b) 0 0 J1 = r → F_X7_passengers (nI i) (nI d') u (nI b) J1 = r := by
            intro J1 r h1 h2 hr
            refine rf _ _ ?_
            rw [h1, h2, s3, s4, if_neg n10, if_pos rfl]
            unfold F_X7_passengers_57
            rw [if_pos hx4, hc4, h1, s3, if_neg n10]
            exact hr
          by_cases hu : 0 ≤ u.toInt ∧ u.toInt ≤ 40
          · obtain ⟨a, ha, rfl⟩ := i_upto (x := u) (m := 40) hu (by omega)
            obtain ⟨J1, e1, v1, g1, a1, b1⟩ := t_come (it := J.2 (39 + 2 * i)) (b := b) hi hm ha hb (fun _ _ => rfl) s2 (zVe.rf (w := zW 7 J)) g
            obtain ⟨J2, e2, t2, a2, b2, c2⟩ := m_come (J := J1) (it := J.2 (39 + 2 * i)) (b := b) (w := zW 7 J) (s := s) hi hm ha hb (fun k hk => by rw [b1 65 (by omega)]; exact (s6 k hk).symm) (by rw [b1 64 (by omega)]; exact s5) (tieJ (fun b _ _ => b1 b (by omega)) (fun k _ => by rw [b1 46 (by omega)]) I.2.1.2.1) g
            obtain ⟨p1, p2, p3⟩ := zPg_1 (it := J.2 (39 + 2 * i)) (a := a) (m := m) b 0 (zW 7 J) s 0
            have v2 : zVe (zPg (J.2 (39 + 2 * i)) a m 0 b (zW 7 J) s 0).2.1 (zW 7 J2) := veW (J := J1) (fun b _ _ => b2 b (by omega) (by omega)) v1
            refine ⟨_, J1, J2, cl2 _ e1, rf2 _ _ (b1 _ (by omega)) (b1 _ (by omega)) e2, E, _, t, n, z, inv_B I (a2.trans a1) (fun b hb => (b2 b (by omega) (by omega)).trans (b1 b (by omega))) (fun k _ _ _ h => by rw [c2 k h, b1 46 (by omega)]) (fun j hj => ?_) p1 ⟨zVe_good v2 g1, zVe_tie v2 g1.1 t2, ?_, htn⟩, zIA_of I.1 a1 (b1 2000 (by omega))⟩
            · exact (v2.2.1 1 (by omega) (by omega) j (by omega)).trans (p2 j hj)
            · exact (v2.1 3 (by omega) (by omega)).trans (p3.trans ht)
          · by_cases hb0 : b = 0
            · subst hb0
              exact zAns.no (v := 0) I (cl2 _ rfl) (rf2 _ _ rfl rfl rfl)
            · have h0b : (0 : Int32) < nI b := by rw [i_lt, i_nI (by omega)]; show (0 : Int) < b; omega
              refine zAns.no (v := -12) I (cl2 _ ?_) (rf2 _ _ rfl rfl ?_)
              · rw [F_X6_passengers_73, if_pos h0b, if_pos (sh_k hi).1]
                rw [show u + 2 * (0 : Int32) = u by rw [Int32.mul_zero, Int32.add_zero], b_shas hi, Option.bind_some, s2, zOne_f (by rw [i_nI (by omega)]; omega)]
                exact if_pos rfl
              · rw [F_X7_passengers_75, if_pos h0b]
                by_cases h1 : u < 0
                · rw [if_pos h1]
                · rw [if_neg h1, if_pos hx4, hc4, s5, if_pos]
                  rw [show (2 : Int32) * (0 : Int32) = 0 by rfl, Int32.sub_zero]
                  rw [i_lt] at h1 ⊢
                  have := sub_lt (y := 2) hm (by decide)
                  rw [this]
                  omega
        · have nd : ¬ nI d' = nI d := fun e => hdd (i_inj (by omega) (by omega) e)
          refine zAns.no (v := -13) I (cl _ ?_) (rf _ _ ?_)
          · rw [b_missing hi, Option.bind_some, zOne_f nmi]
            refine (if_pos rfl).trans ?_
            dsimp only
            rw [s1, if_neg nd]
          · rw [s3, s4, if_neg n10, if_neg nd]
    · refine zAns.no (v := -2) I ?_ ?_
      · unfold F_X6_passengers
        rw [b_sheet hi, Option.bind_some]
        dsimp only
        by_cases h1 : x.toInt < 0
        · rw [if_pos (by rw [i_lt]; omega)]
        · rw [if_neg (by rw [i_lt]; omega)]
          by_cases h2 : 2 < x.toInt
          · rw [if_pos (by rw [i_lt]; omega)]
          · rw [if_neg (by rw [i_lt]; omega)]
            by_cases h3 : y.toInt < 0
            · rw [if_pos (by rw [i_lt]; omega)]
            · rw [if_neg (by rw [i_lt]; omega), if_pos (by rw [i_lt]; omega)]
      · unfold F_X7_passengers
        rw [r_isSheet, Option.bind_some, zOne_t hv]
        refine (if_neg n10).trans ?_
        by_cases h1 : 0 ≤ x.toInt ∧ x.toInt ≤ 2
        · rw [b_inI, Option.bind_some, zOne_t (by exact h1)]
          refine (if_neg n10).trans ?_
          rw [b_inI, Option.bind_some, zOne_f (by exact (fun e => hok ⟨h1, e⟩))]
          exact if_pos rfl
        · rw [b_inI, Option.bind_some, zOne_f (by exact h1)]
          exact if_pos rfl
  · refine zAns.no (v := -2) I ?_ ?_
    · unfold F_X6_passengers
      rw [b_sheetAt, if_neg hv]
      rfl
    · unfold F_X7_passengers
      rw [r_isSheet, Option.bind_some, zOne_f hv]
      exact if_pos rfl
end PA
