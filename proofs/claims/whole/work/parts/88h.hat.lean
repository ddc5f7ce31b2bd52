/-! hat: the call -/
section HC
variable {L : Nat} {xs : Nat → Int32} {E : zEv2} {s t n z : Nat} {J J1 J2 : zzJ} {w w' : zVw} {x y v off : Int32} {a r i h c k p b m : Nat} {it f : Nat → Int32} {P Q : Nat → Nat}
theorem nI_ofx {x : Int32} (h : 0 ≤ x.toInt) (h2 : x.toInt < 1000) : nI x.toInt.toNat = x := by
  obtain ⟨k, hk, rfl⟩ := i_upto (x := x) (m := 1000) ⟨h, by omega⟩ (by omega)
  rw [i_nI (by omega)]
  rfl
abbrev zPf (f : Nat → Int32) : Nat → Nat := fun i => (f i).toInt.toNat
theorem hok_hf (g : zGoodV w s) (hb : b ≤ 6) (h : zHok w s it b) : zHf w s b (zPf it) (zPf (fun i => it (b + i))) ∧ (∀ i, i < b → it i = nI (zPf it i)) ∧ ∀ i, i < b → it (b + i) = nI (zPf (fun i => it (b + i)) i) := by
  have h8 := g.1
  obtain ⟨⟨h1, h2⟩, h3, h4⟩ := h
  have e1 : ∀ i, i < b → it i = nI (zPf it i) := fun i hi => (nI_ofx (h1 i hi).1 (by have := (h1 i hi).2; omega)).symm
  have e2 : ∀ i, i < b → it (b + i) = nI (zPf (fun i => it (b + i)) i) := fun i hi => (nI_ofx (h4 i hi).1.1 (by have := (h4 i hi).1.2; omega)).symm
  refine ⟨⟨hb, fun i hi => ?_, fun i j hi hj e => ?_, fun i hi => ?_, fun i j hi hj e => ?_, fun i hi => ?_⟩, e1, e2⟩
  · have := h1 i hi; show (it i).toInt.toNat < s; omega
  · have ee : it i = it j := by rw [e1 i hi, e1 j hj, e]
    rcases Nat.lt_trichotomy i j with q | q | q
    · exact absurd ee.symm (h2 j i q hj)
    · exact q
    · exact absurd ee (h2 i j q hi)
  · have := (h4 i hi).1; show (it (b + i)).toInt.toNat < 24; omega
  · have ee : it (b + i) = it (b + j) := by rw [e2 i hi, e2 j hj, e]
    rcases Nat.lt_trichotomy i j with q | q | q
    · exact absurd ee.symm (h3 j i q hj)
    · exact q
    · exact absurd ee (h3 i j q hi)
  · have e5 : zSit w (it (b + i)) = w 5 (zPf (fun i => it (b + i)) i) := by
      have := (h4 i hi).1
      rw [e2 i hi]
      unfold zSit
      have q24 : zPf (fun i => it (b + i)) i < 24 := by
        show (it (b + i)).toInt.toNat < 24
        omega
      rw [zIt_nI (by omega) (by omega)]
    rcases (h4 i hi).2 with q | ⟨j, hj, q⟩
    · exact Or.inl (e5.symm.trans q)
    · exact Or.inr ⟨j, hj, by rw [← e5, ← q]; exact e1 j hj⟩
theorem m_stands37 (g : zGoodV w s) {J0 : zzJ} (c : zRx E n s w J0) (e : F_X7_stands J0 = some J1) : J1.2 46 = J0.2 46 := by
  have h8 := g.1
  have lp : ∃ J1, F_X7_stands J0 = some J1 ∧ J1.2 46 = J0.2 46 := by
    refine zLoop (G := fun fu (q : Nat × zzJ) => F_X7_stands_2 fu (nI q.1) q.2) (P := fun k q => q.1 = k ∧ zRx E n s w q.2 ∧ q.2.2 46 = J0.2 46) (Q := fun r => ∃ J1, r = some J1 ∧ J1.2 46 = J0.2 46) (s := s) ?_ s 0 (0, J0) (by omega) ⟨rfl, c, rfl⟩ 4096 (by omega)
    rintro k ⟨k2, J'⟩ hk ⟨rfl, c', fr⟩
    dsimp only at hk c' fr ⊢
    have hm := r_many g c'.1
    by_cases hlt : k2 < s
    · right
      refine ⟨hlt, (k2 + 1, wI J' 58 k2 (w 4 k2)), ⟨rfl, zRx.w5 (by omega) c', (wI_ne (by omega)).trans fr⟩, fun fu => ?_⟩
      rw [F_X7_stands_2, hm, if_pos ((i_lts (by omega) (by omega)).2 hlt), if_pos (i_ix (by omega) (by omega)), if_pos (i_ix (by omega) (by omega)), i_cm (by omega), (c'.1.1 k2 hlt).2.2.2, ← nI_succ]
    · left
      obtain rfl : k2 = s := by omega
      refine ⟨_, ⟨J', rfl, fr⟩, fun fu => ?_⟩
      rw [F_X7_stands_2, hm, if_neg (fun q => hlt ((i_lts (by omega) (by omega)).1 q))]
  obtain ⟨J2, e2, q⟩ := lp
  rw [e2] at e
  rw [← Option.some.inj e]
  exact q
theorem m_hat44 (hh : h < 4) (gw : zGoodV w s) (hf : zHf w s b P Q) (hb0 : 0 < b) (ht : w 0 3 = nI t) (htn : t < n) {J0 : zzJ} (c0 : zRx E n s w J0) (h37 : J0.2 46 37 = nI b) (hit : ∀ i, i < b → J0.2 65 (40 * h + i) = nI (P i) ∧ J0.2 65 (40 * h + b + i) = nI (Q i)) (h58 : ∀ j, j < s → J0.2 58 j = w 4 j) : ∃ J1, F_X7_hat_44 4096 (nI h) x 0 J0 = some ((if x = 0 then (zHs (zVl E w t s b P Q) (zLL b) (0, 0)).2 else (zHs (zVl E w t s b P Q) (zLL b) (0, 0)).1), J1) ∧ zFrR J0 J1 ∧ zTieV J1 w s := by
  have hb := hf.1
  have h8 := gw.1
  generalize hT : zHs (zVl E w t s b P Q) (zLL b) (0, 0) = T
  refine zLoop (G := fun fu (q : Nat × zzJ) => F_X7_hat_44 fu (nI h) x (nI q.1) q.2) (P := fun k q => q.1 = k ∧ zTieV q.2 (zSb w P k) s ∧ zFh J0 q.2) (Q := fun r => ∃ J1, r = some ((if x = 0 then T.2 else T.1), J1) ∧ zFrR J0 J1 ∧ zTieV J1 w s) (s := b) ?_ b 0 (0, J0) (by omega) ⟨rfl, c0.1, zFh.rf⟩ 4096 (by omega)
  rintro k ⟨k2, J'⟩ hk ⟨rfl, t', fr⟩
  dsimp only at hk t' fr ⊢
  have h37' : J'.2 46 37 = nI b := fr.2.2.trans h37
  by_cases hlt : k2 < b
  · right
    obtain ⟨a2, h2, h3⟩ := arr_sb (P := P) gw hf k2 (by omega)
    obtain ⟨J3, e3, t3, a3, b3⟩ := m_seats (q := -1) h2.2.2.2 t' (hf.2.1 _ hlt) (Or.inl rfl)
    refine ⟨hlt, (k2 + 1, J3), ⟨rfl, t3, fr.tr (zFh.mv a3 b3)⟩, fun fu => ?_⟩
    rw [F_X7_hat_44, h37', if_pos ((i_lts (by omega) (by omega)).2 hlt), ix_40, if_pos (i_ix (by omega) (by omega)), i_cm (by omega), show J'.2 65 = J0.2 65 from fr.1.1 65 (by omega) (by omega), (hit k2 hlt).1, e3, Option.bind_some, nI_1]
  · left
    obtain rfl : k2 = b := by omega
    obtain ⟨a2, h2, h3⟩ := arr_sb (P := P) gw hf k2 (Nat.le_refl _)
    have ha : zArr w (zSb w P k2) s k2 P (zCa Q [] 0 (fun _ => -1)) := ⟨h2.1, fun i hi => (h2.2.1 i hi).trans (h3 i hi), h2.2.2.1, h2.2.2.2⟩
    have cc : zRx E n s (zSb w P k2) (wI (wI J' 46 38 0) 46 39 0) := zRx.w1 (by omega) (zRx.w1 (by omega) ⟨t', by rw [fr.1.1 47 (by omega) (by omega), fr.1.1 48 (by omega) (by omega)]; exact c0.2⟩)
    have fw : zFh J' (wI (wI J' 46 38 0) 46 39 0) := (zFh.wr (by omega)).tr (zFh.wr (by omega))
    have fw0 := fr.tr fw
    obtain ⟨J4, e4, c4, f4, s4⟩ := m_seeks hh gw hf ht htn k2 0 0 8 [] (zSb w P k2) (wI (wI J' 46 38 0) 46 39 0) (by omega) rfl (fun q hq => absurd hq (by simp)) (by omega) (by omega) ha (zFr0_m1 hf (fun _ _ => rfl)) (fun _ _ _ => rfl) cc (fw.2.2.trans h37') (fun i hi => by rw [show (wI (wI J' 46 38 0) 46 39 0).2 65 = J0.2 65 from fw0.1.1 65 (by omega) (by omega)]; exact hit i hi)
    have f04 := fw0.tr f4
    obtain ⟨J5, e5, t5, a5, b5⟩ := m_again gw h2.2.2.2 c4.1 h2.1 (fun j hj => by rw [f04.2.1]; exact h58 j hj)
    have s4' : zHs (zVl E w t s k2 P Q) (zLL k2) (0, 0) = (J4.2 46 38, J4.2 46 39) := s4
    rw [hT] at s4'
    have f45 : zFrR J4 J5 := zFrR.mv a5 b5
    refine ⟨_, ⟨J5, rfl, f04.1.tr f45, t5⟩, fun fu => ?_⟩
    have e4' : E_X7_seeks (nI h) 0 0 0 (wI (wI J' 46 38 0) 46 39 0) = some J4 := e4
    rw [F_X7_hat_44, h37', if_neg (fun q => hlt ((i_lts (by omega) (by omega)).1 q)), e4', Option.bind_some, e5, Option.bind_some, b5 46 (by omega) (by omega), s4']
    dsimp only
    by_cases hx : x = 0
    · rw [if_pos hx, if_pos hx]
    · rw [if_neg hx, if_neg hx]
theorem c_hat (I : zInv L xs E s t n z J) : zAns L xs (F_X6_hat x y) (F_X7_hat x y) J := by
  obtain ⟨g, h8, ht, htn, h4, hC, hR⟩ := inv_d I
  have e0 : (0 : Int32).toInt = 0 := rfl
  have m0 : (0 : Int64).toInt = 0 := rfl
  have m1 : (1 : Int64).toInt = 1 := rfl
  by_cases hv : 0 ≤ x.toInt ∧ x.toInt < 4
  · obtain ⟨i, hi0, rfl⟩ := i_upto (x := x) (m := 3) (by omega) (by omega)
    have hi : i < 4 := by omega
    have hx4 : zzIx (nI i) 4 := i_ix (by omega) (by omega)
    have hc4 : (nI i).toNatClampNeg = i := i_cm (by omega)
    by_cases hy : 0 ≤ y.toInt ∧ y.toInt ≤ 1
    · have cl : ∀ q, (Option.bind (F_X1_takes (38 + 2 * i) 7 J) fun q6 => (if q6.1 = (0 : Int32) then some ((-100000 : Int32), q6.2) else (Option.bind (F_X0_take 14 7 q6.2) fun q8 => (Option.bind (F_X1_seek 14 q8) fun q9 => (if y = (0 : Int32) then some ((q9.2 33 4), q9) else some ((q9.2 33 5), q9)))))) = q → F_X6_hat (nI i) y J = q := by
        intro q hq
        unfold F_X6_hat
        rw [b_sheet hi, Option.bind_some]
        dsimp only
        rw [b_01, Option.bind_some, zOne_t hy]
        exact (if_neg n10).trans hq
      have rl : ∀ (J1 : zzJ) q, (if (J1.2 62 i) = (0 : Int32) then some ((-100000 : Int32), J1) else (Option.bind (F_X7_isHat (nI i) J1) fun q13 => (if q13.1 = (0 : Int32) then some ((-100000 : Int32), q13.2) else (Option.bind (F_X7_stands q13.2) fun q15 => F_X7_hat_44 4096 (nI i) y (0 : Int32) q15)))) = q → F_X7_hat (nI i) y J1 = q := by
        intro J1 q hq
        unfold F_X7_hat
        rw [r_isSheet, Option.bind_some, zOne_t hv]
        refine (if_neg n10).trans ?_
        dsimp only
        rw [b_inI, Option.bind_some, zOne_t (by rw [m0, m1]; exact hy)]
        refine (if_neg n10).trans ?_
        rw [if_pos hx4]
        simp only [hc4]
        exact hq
      rcases I.2.2.2.2.2 i hi with ⟨p, p2⟩ | ⟨d, m, hd, hm, s1, s2, s3, s4, s5, s6⟩
      · refine zAns.no (v := -100000) I (cl _ ?_) (rl _ _ ?_)
        · unfold F_X1_takes
          rw [if_pos (sh_k hi).1, b_missing hi, Option.bind_some, zOne_t p]
          rfl
        · rw [if_pos p2]
      · have nmi : ¬ J.2 (38 + 2 * i) 0 = -1 := by rw [s1]; exact i_nm1 (by omega)
        obtain ⟨r, Jt, et, ht1, ft, ht2⟩ := t_takes (it := J.2 (39 + 2 * i)) hi g (zVe.rf : zVe (zW 7 J) (zW 7 J)) hm nmi s2 (fun _ _ => rfl)
        have ref : ∀ J1, zFrC J J1 → zInv L xs E s t n z J1 → zTieV J1 (zW 7 J) s → ∃ r' J2, F_X7_isHat (nI i) J1 = some (r', J2) ∧ zTf (zHall (zW 7 J) s m (J.2 (39 + 2 * i))) r' ∧ zRx E n s (zW 7 J) J2 ∧ zFrR J1 J2 ∧ (r' = 1 → J2.2 46 37 = nI (m / 2)) := fun J1 f1 I1 ti => m_isHat (E := E) (n := n) hi g ⟨ti, (inv_d I1).2.2.2.2.2.2⟩ hm (by rw [f1.2 64 (by omega)]; exact s5) (fun p hp => by rw [f1.2 65 (by omega)]; exact (s6 p hp).symm)
        have r62 : ∀ J1, zFrC J J1 → ¬ J1.2 62 i = 0 := fun J1 f1 => by rw [f1.2 62 (by omega), s3]; exact n10
        by_cases hall : zHall (zW 7 J) s m (J.2 (39 + 2 * i))
        · have hr1 : r = 1 := by
            rcases ht1 with ⟨q, _⟩ | ⟨_, q⟩
            · exact q
            · exact absurd hall q
          subst hr1
          obtain ⟨d3, d34, d35⟩ := ht2 rfl
          obtain ⟨_, hmb, hok⟩ := hall
          obtain ⟨hf, x1, x2⟩ := hok_hf g hmb.2 hok
          have ct : zCx E n (zW 7 J) Jt := (show zCx E n (zW 7 J) J from ⟨zVe.rf, hC⟩).fr ft
          obtain ⟨Ju, eu, vu, fu⟩ := t_now ct
          have cu := ct.fr fu
          have k33 : Ju.2 33 3 = nI (m / 2) ∧ (∀ p, p < m / 2 → Ju.2 34 p = nI (zPf (J.2 (39 + 2 * i)) p)) ∧ ∀ p, p < m / 2 → Ju.2 35 p = nI (zPf (fun p => J.2 (39 + 2 * i) (m / 2 + p)) p) := by
            obtain ⟨Jw, ew, _, _, fw⟩ := t_take (J := Jt) zC14 zC7 (by decide)
            have : Jw = Ju := by rw [ew] at eu; exact Option.some.inj eu
            subst this
            rw [fw 33 (by omega), fw 34 (by omega), fw 35 (by omega)]
            exact ⟨d3, fun p hp => (d34 p hp).trans (x1 p hp), fun p hp => (d35 p hp).trans (x2 p hp)⟩
          obtain ⟨Jv, ev, tv, fv⟩ := t_seek g hf (by omega) ht htn cu k33 vu
          generalize hT : zHs (zVl E (zW 7 J) t s (m / 2) (zPf (J.2 (39 + 2 * i))) (zPf (fun p => J.2 (39 + 2 * i) (m / 2 + p)))) (zLL (m / 2)) (0, 0) = T at tv
          refine zAns.qf I (if y = 0 then T.2 else T.1) ⟨Jv, cl _ ?_, (ft.tr fu).tr fv⟩ (fun J1 f1 I1 ti => ?_)
          · rw [et, Option.bind_some]
            refine (if_neg n10).trans ?_
            dsimp only
            rw [eu, Option.bind_some, ev, Option.bind_some, ← tv]
            dsimp only
            by_cases hy0 : y = 0
            · rw [if_pos hy0, if_pos hy0]
            · rw [if_neg hy0, if_neg hy0]
          · obtain ⟨r', J2, eh, hh', c2, f2, d2⟩ := ref J1 f1 I1 ti
            have hr1 : r' = 1 := by
              rcases hh' with ⟨q, _⟩ | ⟨_, q⟩
              · exact q
              · exact absurd ⟨by assumption, hmb, hok⟩ q
            subst hr1
            obtain ⟨J3, e3, c3, f3, d3'⟩ := m_stands g c2
            have d37 : J3.2 46 37 = J2.2 46 37 := by rw [m_stands37 g c2 e3]
            have q65 : J3.2 65 = J.2 65 := by rw [f3.1 65 (by omega) (by omega), f2.1 65 (by omega) (by omega), f1.2 65 (by omega)]
            obtain ⟨J4, e4, f4, t4⟩ := m_hat44 (x := y) hi g hf (by omega) ht htn c3 (d37.trans (d2 rfl)) (fun p hp => by rw [q65]; exact ⟨by rw [← x1 p hp]; exact (s6 p (by omega)).symm, by rw [← x2 p hp, Nat.add_assoc]; exact (s6 (m / 2 + p) (by omega)).symm⟩) d3'
            rw [hT] at e4
            refine ⟨J4, rl J1 _ ?_, (f2.tr f3).tr f4, t4⟩
            rw [if_neg (r62 J1 f1), eh, Option.bind_some]
            refine (if_neg n10).trans ?_
            dsimp only
            rw [e3, Option.bind_some]
            exact e4
        · have hr0 : r = 0 := by
            rcases ht1 with ⟨_, q⟩ | ⟨q, _⟩
            · exact absurd q hall
            · exact q
          subst hr0
          refine zAns.qf I (-100000) ⟨Jt, cl _ ?_, ft⟩ (fun J1 f1 I1 ti => ?_)
          · rw [et, Option.bind_some]
            exact if_pos rfl
          · obtain ⟨r', J2, eh, hh', c2, f2, d2⟩ := ref J1 f1 I1 ti
            have hr1 : r' = 0 := by
              rcases hh' with ⟨_, q⟩ | ⟨q, _⟩
              · exact absurd q hall
              · exact q
            subst hr1
            refine ⟨J2, rl J1 _ ?_, f2, c2.1⟩
            rw [if_neg (r62 J1 f1), eh, Option.bind_some]
            exact if_pos rfl
    · refine zAns.no (v := -100000) I ?_ ?_
      · unfold F_X6_hat
        rw [b_sheet hi, Option.bind_some]
        dsimp only
        rw [b_01, Option.bind_some, zOne_f hy]
        exact if_pos rfl
      · unfold F_X7_hat
        rw [r_isSheet, Option.bind_some, zOne_t hv]
        refine (if_neg n10).trans ?_
        dsimp only
        rw [b_inI, Option.bind_some, zOne_f (by rw [m0, m1]; exact hy)]
        exact if_pos rfl
  · refine zAns.no (v := -100000) I ?_ ?_
    · unfold F_X6_hat
      rw [b_sheetAt, if_neg hv, Option.bind_some]
    · unfold F_X7_hat
      rw [r_isSheet, Option.bind_some, zOne_f hv]
      exact if_pos rfl
end HC
