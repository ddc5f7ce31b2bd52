/-! the calls that change a coach: force, set, passenger, sit; and feed -/
section CC
variable {L : Nat} {xs : Nat → Int32} {E : zEv2} {s t n z : Nat} {J J1 : zzJ} {w w' : zVw} {x y v : Int32}
theorem good_0 (h4 : w' 0 4 = w 0 4) (h : ∀ r, 1 ≤ r → r < 6 → w' r = w r) (g : zGoodV w s) : zGoodV w' s := by
  unfold zGoodV
  rw [h 1 (by omega) (by omega), h 2 (by omega) (by omega), h 3 (by omega) (by omega), h 4 (by omega) (by omega), h 5 (by omega) (by omega), h4]
  exact g
theorem iK_d {s' : Nat} (hs : s ≤ s') (h0 : J1.2 0 = J.2 0) (h8 : ∀ i, i < s → J1.2 8 i = J.2 8 i) (h21 : ∀ b, 20 < b → b < 27 → J1.2 b = J.2 b) (h59 : ∀ b, 58 < b → b < 62 → J1.2 b = J.2 b) (h46 : ∀ k, 39 < k → J1.2 46 k = J.2 46 k) (h : zIK J s n) : zIK J1 s' n := by
  have e : ∀ r, r < 6 → zW 21 J1 r = zW 21 J r := fun r hr => h21 _ (by omega) (by omega)
  have g : ∀ u, zGoodV (zW 21 J) u → zGoodV (zW 21 J1) u := fun u => by
    unfold zGoodV
    rw [e 0 (by omega), e 1 (by omega), e 2 (by omega), e 3 (by omega), e 4 (by omega), e 5 (by omega)]
    exact id
  unfold zIK
  rw [h0, h21 21 (by omega) (by omega), h21 22 (by omega) (by omega), h21 23 (by omega) (by omega), h21 24 (by omega) (by omega), h21 25 (by omega) (by omega), h59 59 (by omega) (by omega), h59 60 (by omega) (by omega), h59 61 (by omega) (by omega), h46 44 (by omega), h46 45 (by omega), h46 46 (by omega), h46 47 (by omega)]
  rcases h with h | ⟨x, u, y, z, g0, a, b, c⟩
  · exact Or.inl h
  · refine Or.inr ⟨x, u, by omega, z, g u g0, a, fun i hi => ?_, c⟩
    rw [h8 i (by omega)]
    exact b i hi
/-- a change of coach 7 on both sides -/
theorem inv_B {s' t' : Nat} (I : zInv L xs E s t n z J) (h1 : J1.1 = J.1) (h : ∀ b, (b < 7 ∨ (12 < b ∧ b < 46) ∨ (46 < b ∧ b < 50) ∨ 54 < b) → J1.2 b = J.2 b) (h46 : ∀ k, k ≠ 4 → k ≠ 7 → k ≠ 8 → k ≠ 14 → J1.2 46 k = J.2 46 k) (hk : ∀ i, i < s → J1.2 8 i = J.2 8 i) (hs : s ≤ s') (B : zIB J1 s' t' n) : zInv L xs E s' t' n z J1 := by
  obtain ⟨a, b, c, d, e, f⟩ := I
  exact ⟨⟨by rw [h1]; exact a.1, by rw [h 2000 (by omega)]; exact a.2⟩, B, iT_c (h _ (by omega)) (h _ (by omega)) (h _ (by omega)) (h46 3 (by omega) (by omega) (by omega) (by omega)) (h _ (by omega)) (h _ (by omega)) c, iP_c (h _ (by omega)) (h _ (by omega)) (h46 6 (by omega) (by omega) (by omega) (by omega)) (h _ (by omega)) d, iK_d hs (h _ (by omega)) hk (fun b _ _ => h b (by omega)) (fun b _ _ => h b (by omega)) (fun k _ => h46 k (by omega) (by omega) (by omega) (by omega)) e, fun i hi => iS_c hi (fun b _ => h b (by omega)) (f i hi)⟩
theorem c_force (I : zInv L xs E s t n z J) : zAns L xs (F_X6_force x) (F_X7_force x) J := by
  obtain ⟨g, h8, ht, htn, h4, hC, _⟩ := inv_d I
  have n6 := I.2.2.1.1
  have en : J.2 1 3 = nI n := I.2.2.1.2.1
  have er : (J.2 46 3 - 1).toInt64.toInt = (n : Int) - 1 := by rw [l_of, I.2.2.1.2.2.1, i_pred n (by omega)]
  have e0 : (0 : Int64).toInt = 0 := rfl
  by_cases hx : 0 ≤ x.toInt ∧ x.toInt < n
  · obtain ⟨k, hk, _, hk3⟩ := i_nat hx.1
    subst hk
    refine ⟨nI t, wI J 7 3 (nI k), wI (wI J 7 3 (nI k)) 46 4 (nI k), ?_, ?_, E, s, k, n, z, ?_, zIA_wr (by omega) I.1⟩
    · unfold F_X6_force
      rw [if_neg (by rw [i_lt, i_nI (by omega)]; show ¬ (k : Int) < 0; omega), if_pos (by rw [en, i_lt, i_nI (by omega), i_nI (by omega)]; omega)]
      rw [show J.2 7 3 = nI t from ht]
    · unfold F_X7_force
      rw [b_inI]
      have er' : (((wI J 7 3 (nI k)).2 46 3) - 1).toInt64.toInt = (n : Int) - 1 := er
      rw [Option.bind_some, zOne_t (by rw [er', e0]; omega)]
      refine (if_neg (by first | exact n10 | decide)).trans ?_
      have : (wI J 7 3 (nI k)).2 46 4 = nI t := I.2.1.2.1.2.2.2.2.1.trans ht
      dsimp only
      rw [this]
    · have q : ∀ r, 1 ≤ r → r < 6 → zW 7 (wI (wI J 7 3 (nI k)) 46 4 (nI k)) r = zW 7 J r := fun r _ _ => by
        show (wI (wI J 7 3 (nI k)) 46 4 (nI k)).2 (7 + r) = _
        rw [wI_ne (by omega), wI_ne (by omega)]; rfl
      refine inv_B I rfl (fun b hb => by rw [wI_ne (by omega), wI_ne (by omega)]) (fun j a _ _ _ => by rw [wI_get, if_neg (by omega), wI_ne (by omega)]) (fun i _ => by rw [wI_ne (by omega), wI_ne (by omega)]) (Nat.le_refl _) ⟨good_0 ?_ q g, ?_, ?_, by omega⟩
      · show (wI (wI J 7 3 (nI k)) 46 4 (nI k)).2 7 4 = _
        simp [wI_get]; rfl
      · have ti := I.2.1.2.1
        refine ⟨fun i hi => ?_, fun j hj => ?_, ti.2.2.1, ti.2.2.2.1, ?_, ti.2.2.2.2.2⟩
        · rw [q 1 (by omega) (by omega), q 2 (by omega) (by omega), q 3 (by omega) (by omega), q 4 (by omega) (by omega)]
          exact ti.1 i hi
        · rw [q 5 (by omega) (by omega)]
          exact ti.2.1 j hj
        · show (wI (wI J 7 3 (nI k)) 46 4 (nI k)).2 46 4 = (wI (wI J 7 3 (nI k)) 46 4 (nI k)).2 7 3
          simp [wI_get]
      · simp [wI_get]
  · refine zAns.q I (-2) ⟨J, ?_, zFrC.rf⟩ (fun J1 I1 ti => ⟨J1, ?_, zFrR.rf, ti⟩)
    · unfold F_X6_force
      by_cases h1 : x < 0
      · rw [if_pos h1]
      · rw [if_neg h1, if_neg]
        rw [en]
        rw [i_lt] at h1 ⊢
        rw [i_nI (by omega)]
        have e0 : (0 : Int32).toInt = 0 := rfl
        omega
    · unfold F_X7_force
      have er' : ((J1.2 46 3) - 1).toInt64.toInt = (n : Int) - 1 := by rw [l_of, I1.2.2.1.2.2.1, i_pred n (by omega)]
      rw [b_inI, Option.bind_some, zOne_f (by rw [er', e0]; omega)]
      exact if_pos rfl
theorem c_feed (I : zInv L xs E s t n z J) : zAns L xs (F_X6_feed x) (F_X7_feed x) J := by
  obtain ⟨hz, h5, h46, hb⟩ := I.2.2.2.1
  by_cases hx : 0 ≤ x.toInt ∧ x.toInt ≤ 255
  · obtain ⟨k, hk, rfl⟩ := i_upto (x := x) (m := 255) hx (by omega)
    have c1 : ¬ nI k < (0 : Int32) := by rw [i_lt, i_nI (by omega)]; show ¬ (k : Int) < 0; omega
    have c2 : ¬ (255 : Int32) < nI k := by rw [i_lt, i_nI (by omega)]; show ¬ (255 : Int) < k; omega
    by_cases hf : z = 160
    · subst hf
      refine zAns.q I (-4) ⟨J, ?_, zFrC.rf⟩ (fun J1 I1 ti => ⟨J1, ?_, zFrR.rf, ti⟩)
      · unfold F_X6_feed
        rw [if_neg c1, if_neg c2, h5, if_neg (by first | exact n10 | decide)]
      · unfold F_X7_feed
        rw [b_inI, Option.bind_some, zOne_t (by exact hx)]
        refine (if_neg (by first | exact n10 | decide)).trans ?_
        dsimp only
        rw [I1.2.2.2.1.2.2.1, if_pos (by decide)]
    · have hz1 : z < 160 := by omega
      refine ⟨nI (z + 1), wI (wI J 6 z (nI k)) 5 2 (nI (z + 1)), wI (wI (wI (wI J 6 z (nI k)) 5 2 (nI (z + 1))) 49 z (nI k)) 46 6 (nI (z + 1)), ?_, ?_, E, s, t, n, z + 1, ?_, zIA_wr (by omega) (zIA_wr (by omega) I.1)⟩
      · unfold F_X6_feed F_X2_append
        have e1 : F_X6_put 6 (nI z) (nI k) J = some (wI J 6 z (nI k)) := by
          rw [b_put (n := 160) rfl rfl (by omega), if_pos (by rw [i_nI (by omega)]; omega), i_nI (by omega)]
          rfl
        have e2 : (wI J 6 z (nI k)).2 5 2 = nI z := h5
        rw [if_neg c1, if_neg c2, h5, if_pos (by rw [i_lt, i_nI (by omega)]; show (z : Int) < 160; omega), e1, Option.bind_some, e2, ← nI_succ, Option.bind_some]
        simp [wI_get]
      · unfold F_X7_feed
        rw [b_inI, Option.bind_some, zOne_t (by exact hx)]
        refine (if_neg (by first | exact n10 | decide)).trans ?_
        have e2 : (wI (wI J 6 z (nI k)) 5 2 (nI (z + 1))).2 46 6 = nI z := h46
        dsimp only
        rw [e2, if_neg (fun e => hf (i_inj (by omega) (by omega) (e.trans (show (160 : Int32) = nI 160 from rfl)))), if_pos (i_ix (by omega) (by omega)), i_cm (by omega)]
        have e3 : (wI (wI (wI J 6 z (nI k)) 5 2 (nI (z + 1))) 49 z (nI k)).2 46 6 = nI z := h46
        rw [e3, ← nI_succ]
        simp [wI_get]
      · obtain ⟨a, b, c, d, e, f⟩ := I
        have o : ∀ c, c ≠ 46 → c ≠ 49 → c ≠ 5 → c ≠ 6 → (wI (wI (wI (wI J 6 z (nI k)) 5 2 (nI (z + 1))) 49 z (nI k)) 46 6 (nI (z + 1))).2 c = J.2 c := fun c h1 h2 h3 h4 => by rw [wI_ne h1, wI_ne h2, wI_ne h3, wI_ne h4]
        have o46 : ∀ c, c ≠ 6 → (wI (wI (wI (wI J 6 z (nI k)) 5 2 (nI (z + 1))) 49 z (nI k)) 46 6 (nI (z + 1))).2 46 c = J.2 46 c := fun c h1 => by rw [wI_get, if_neg (by omega), wI_ne (by omega), wI_ne (by omega), wI_ne (by omega)]
        refine ⟨⟨a.1, (o _ (by omega) (by omega) (by omega) (by omega)).trans a.2⟩, iB_c (fun b x y => o b (by omega) (by omega) (by omega) (by omega)) (tieJ (fun b _ _ => o b (by omega) (by omega) (by omega) (by omega)) (fun k _ => o46 k (by omega)) b.2.1) b, iT_c (o _ (by omega) (by omega) (by omega) (by omega)) (o _ (by omega) (by omega) (by omega) (by omega)) (o _ (by omega) (by omega) (by omega) (by omega)) (o46 _ (by omega)) (o _ (by omega) (by omega) (by omega) (by omega)) (o _ (by omega) (by omega) (by omega) (by omega)) c, ⟨by omega, ?_, ?_, fun j hj => ?_⟩, iK_c (o _ (by omega) (by omega) (by omega) (by omega)) (o _ (by omega) (by omega) (by omega) (by omega)) (fun b _ _ => o _ (by omega) (by omega) (by omega) (by omega)) (fun b _ _ => o _ (by omega) (by omega) (by omega) (by omega)) (fun k _ => o46 _ (by omega)) e, fun i hi => iS_c hi (fun b _ => o _ (by omega) (by omega) (by omega) (by omega)) (f i hi)⟩
        · simp [wI_get]
        · simp [wI_get]
        · by_cases hjz : j = z
          · subst hjz
            exact ⟨k, by omega, by simp [wI_get], by simp [wI_get]⟩
          · obtain ⟨b, hb1, hb2, hb3⟩ := hb j (by omega)
            exact ⟨b, hb1, by simp [wI_get, hjz, hb2], by simp [wI_get, hjz, hb3]⟩
  · refine zAns.q I (-2) ⟨J, ?_, zFrC.rf⟩ (fun J1 I1 ti => ⟨J1, ?_, zFrR.rf, ti⟩)
    · unfold F_X6_feed
      by_cases h1 : x < 0
      · rw [if_pos h1]
      · rw [if_neg h1, if_pos]
        rw [i_lt] at h1 ⊢
        have e0 : (0 : Int32).toInt = 0 := rfl
        have e1 : (255 : Int32).toInt = 255 := rfl
        omega
    · unfold F_X7_feed
      rw [b_inI, Option.bind_some, zOne_f (by exact hx)]
      exact if_pos rfl
theorem c_sit (I : zInv L xs E s t n z J) : zAns L xs (F_X6_sit x y) (F_X7_sit x y) J := by
  obtain ⟨g, h8, ht, htn, h4, hC, _⟩ := inv_d I
  have ti := I.2.1.2.1
  have em : (-1 : Int32).toInt = -1 := rfl
  have e24 : (24 : Int32).toInt = 24 := rfl
  by_cases hx : 0 ≤ x.toInt ∧ x.toInt < s
  · obtain ⟨i, hi, rfl⟩ := w_one g hx
    have hx8 : zzIx (nI i) 8 := i_ix (by omega) (by omega)
    have hc : (nI i).toNatClampNeg = i := i_cm (by omega)
    by_cases hy : y = -1 ∨ (0 ≤ y.toInt ∧ y.toInt < 24)
    · have c1 : ¬ y < (-1 : Int32) := by rcases hy with rfl | h; · decide
                                         · rw [i_lt]; omega
      have c2 : y < (24 : Int32) := by rcases hy with rfl | h; · decide
                                       · rw [i_lt]; omega
      have hq : zQok y := hy.imp id (fun h => by obtain ⟨k, hk, e⟩ := i_upto (x := y) (m := 23) (by omega) (by omega); exact ⟨k, by omega, e⟩)
      have zs : zSit (zW 7 J) y = -1 ∧ y = -1 ∨ ∃ k, k < 24 ∧ y = nI k ∧ zSit (zW 7 J) y = J.2 12 k := by
        rcases hq with rfl | ⟨k, hk, rfl⟩
        · exact Or.inl ⟨rfl, rfl⟩
        · exact Or.inr ⟨k, hk, rfl, zIt_nI (by omega) (by omega)⟩
      by_cases ho : zSit (zW 7 J) y = -1 ∨ zSit (zW 7 J) y = nI i
      · have hop : zOpen (zW 7 J) i y := by
          rcases zs with ⟨_, h⟩ | ⟨k, hk, e1, e2⟩
          · exact Or.inl h
          · exact Or.inr ⟨k, hk, e1, by rw [← show J.2 12 k = zW 7 J 5 k from rfl, ← e2]; exact ho⟩
        obtain ⟨J1, e1, v1, a1, b1⟩ := t_move (J := J) (q := y) zC7 zVe.rf g hi hq
        have ti1 : zTieV J1 (zW 7 J) s := tieJ (fun b _ _ => b1 b (by omega) (by omega)) (fun k _ => by rw [b1 46 (by omega) (by omega)]) ti
        obtain ⟨J2, e2, t2, a2, b2⟩ := m_seats (J := J1) (q := y) g ti1 hi hq
        refine ⟨J.2 11 i, J1, J2, ?_, ?_, E, s, t, n, z, ?_, zIA_of I.1 a1 (b1 2000 (by omega) (by omega))⟩
        · unfold F_X6_sit
          rw [c7_has I, Option.bind_some, zOne_t hx]
          refine (if_neg (by first | exact n10 | decide)).trans ?_
          rw [if_neg c1, if_pos c2]
          dsimp only
          rw [cw_sitterAt zC7, Option.bind_some]
          dsimp only
          have key : F_X6_sit_47 (nI i) y J = some (J.2 11 i, J1) := by
            unfold F_X6_sit_47
            rw [cw_seatOf zC7, Option.bind_some, zSeat_nI g hi]
            dsimp only
            rw [e1]
            rfl
          rcases ho with ho | ho
          · rw [if_pos ho, key]
          · by_cases ho2 : zSit (zW 7 J) y = -1
            · rw [if_pos ho2, key]
            · rw [if_neg ho2, if_pos ho, key]
        · have key : F_X7_sit_51 (nI i) y J1 = some (J.2 11 i, J2) := by
            unfold F_X7_sit_51
            rw [if_pos hx8, e2, Option.bind_some, hc, (ti1.1 i hi).2.2.2]
            rfl
          have key2 : F_X7_sit_23 (nI i) y J1 = some (J.2 11 i, J2) := by
            unfold F_X7_sit_23
            rcases zs with ⟨_, h⟩ | ⟨k, hk, e1, e2⟩
            · rw [if_pos h, key]
            · subst e1
              have e3 : J1.2 54 (nI k).toNatClampNeg = zSit (zW 7 J) (nI k) := by rw [i_cm (by omega)]; exact (ti1.2.1 k hk).trans e2.symm
              rw [if_neg (i_nm1 (by omega)), if_pos (i_ix hk (by omega))]
              rcases ho with ho | ho
              · rw [if_pos (e3.trans ho), key]
              · by_cases ho2 : zSit (zW 7 J) (nI k) = -1
                · rw [if_pos (e3.trans ho2), key]
                · rw [if_neg (fun q => ho2 (e3.symm.trans q)), if_pos (i_ix hk (by omega)), if_pos (e3.trans ho), key]
          unfold F_X7_sit
          rw [r_isOne g ti1, Option.bind_some, zOne_t hx]
          refine (if_neg (by first | exact n10 | decide)).trans ?_
          by_cases hy1 : y = -1
          · rw [if_pos hy1, key2]
          · rw [if_neg hy1, r_isSeat, Option.bind_some, zOne_t (hy.resolve_left hy1)]
            exact (if_neg (by first | exact n10 | decide)).trans key2
        · have v2 : zVe (zMv (zW 7 J) i y) (zW 7 J2) := veW (J := J1) (fun b _ _ => b2 b (by omega) (by omega)) v1
          refine inv_B I (a2.trans a1) (fun b hb => (b2 b (by omega) (by omega)).trans (b1 b (by omega) (by omega))) (fun k _ _ _ _ => by rw [b2 46 (by omega) (by omega), b1 46 (by omega) (by omega)]) (fun i _ => by rw [b2 8 (by omega) (by omega), b1 8 (by omega) (by omega)]) (Nat.le_refl _) ⟨zVe_good v2 (zMv_good g hi hop), zVe_tie v2 h8 t2, ?_, htn⟩
          rw [b2 7 (by omega) (by omega), b1 7 (by omega) (by omega)]
          exact ht
      · refine zAns.q I (-3) ⟨J, ?_, zFrC.rf⟩ (fun J1 I1 ti1 => ⟨J1, ?_, zFrR.rf, ti1⟩)
        · unfold F_X6_sit
          rw [c7_has I, Option.bind_some, zOne_t hx]
          refine (if_neg (by first | exact n10 | decide)).trans ?_
          rw [if_neg c1, if_pos c2]
          dsimp only
          rw [cw_sitterAt zC7, Option.bind_some]
          dsimp only
          rw [if_neg (fun q => ho (Or.inl q)), if_neg (fun q => ho (Or.inr q))]
        · rcases zs with ⟨h, _⟩ | ⟨k, hk, e1, e2⟩
          · exact absurd (Or.inl h) ho
          · subst e1
            have e3 : J1.2 54 (nI k).toNatClampNeg = zSit (zW 7 J) (nI k) := by rw [i_cm (by omega)]; exact (ti1.2.1 k hk).trans e2.symm
            have hk2 : 0 ≤ (nI k).toInt ∧ (nI k).toInt < 24 := by rw [i_nI (by omega)]; omega
            unfold F_X7_sit
            rw [r_isOne g ti1, Option.bind_some, zOne_t hx]
            refine (if_neg (by first | exact n10 | decide)).trans ?_
            rw [if_neg (i_nm1 (by omega)), r_isSeat, Option.bind_some, zOne_t hk2]
            refine (if_neg (by first | exact n10 | decide)).trans ?_
            unfold F_X7_sit_23
            rw [if_neg (i_nm1 (by omega)), if_pos (i_ix hk (by omega))]
            dsimp only
            rw [if_neg (fun q => ho (Or.inl (e3.symm.trans q))), if_pos (i_ix hk (by omega)), if_neg (fun q => ho (Or.inr (e3.symm.trans q)))]
    · refine zAns.q I (-2) ⟨J, ?_, zFrC.rf⟩ (fun J1 I1 ti1 => ⟨J1, ?_, zFrR.rf, ti1⟩)
      · unfold F_X6_sit
        rw [c7_has I, Option.bind_some, zOne_t hx]
        refine (if_neg (by first | exact n10 | decide)).trans ?_
        by_cases h1 : y < (-1 : Int32)
        · rw [if_pos h1]
        · rw [if_neg h1, if_neg]
          intro h2
          rw [i_lt] at h1 h2
          have : ¬ y.toInt = -1 := fun e => hy (Or.inl (i_eq.2 (e.trans em.symm)))
          exact hy (Or.inr (by omega))
      · unfold F_X7_sit
        rw [r_isOne g ti1, Option.bind_some, zOne_t hx]
        refine (if_neg (by first | exact n10 | decide)).trans ?_
        rw [if_neg (fun e => hy (Or.inl e)), r_isSeat, Option.bind_some, zOne_f (fun e => hy (Or.inr e))]
        exact if_pos rfl
  · refine zAns.q I (-2) ⟨J, ?_, zFrC.rf⟩ (fun J1 I1 ti1 => ⟨J1, ?_, zFrR.rf, ti1⟩)
    · unfold F_X6_sit
      rw [c7_has I, Option.bind_some, zOne_f hx]
      exact if_pos rfl
    · unfold F_X7_sit
      rw [r_isOne g ti1, Option.bind_some, zOne_f hx]
      exact if_pos rfl
end CC
