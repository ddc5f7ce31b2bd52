/-! set -/
section ST
variable {L : Nat} {xs : Nat → Int32} {E : zEv2} {s t n z : Nat} {J J2 : zzJ} {w w' : zVw} {x y v : Int32} {a r i : Nat}
theorem inv_W {t' : Nat} (I : zInv L xs E s t n z J) (h1 : J2.1 = J.1) (h : ∀ b, (b < 7 ∨ (12 < b ∧ b < 46) ∨ (46 < b ∧ b < 50) ∨ 54 < b) → J2.2 b = J.2 b) (h46 : ∀ k, k ≠ 4 → k ≠ 7 → k ≠ 8 → k ≠ 14 → J2.2 46 k = J.2 46 k) (v2 : zVe w' (zW 7 J2)) (g2 : zGoodV w' s) (t2 : zTieV J2 w' s) (hk : ∀ i, i < s → w' 1 i = zW 7 J 1 i) (h3 : w' 0 3 = nI t') (htn : t' < n) : zInv L xs E s t' n z J2 :=
  inv_B I h1 h h46 (fun i hi => (v2.2.1 1 (by omega) (by omega) i (by have := g2.1; omega)).trans (hk i hi)) (Nat.le_refl _) ⟨zVe_good v2 g2, zVe_tie v2 g2.1 t2, (v2.1 3 (by omega) (by omega)).trans h3, htn⟩
theorem r_told0 : F_X7_told x 0 J = some (J.2 46 7, J) := rfl
theorem r_told1 : F_X7_told x 1 J = some (J.2 46 8, J) := rfl
theorem good_f {f : Nat} (g : zGoodV w s) (hf : f ≠ 4) : zGoodV (zWr w 0 f v) s := good_0 (zWr_o (by omega)) (fun r h1 _ => zWr_r (by omega)) g
theorem c_set {of : Int32} (I : zInv L xs E s t n z J) : zAns L xs (F_X6_set x of v) (F_X7_set x of v) J := by
  obtain ⟨g, h8, ht, htn, h4, hC, _⟩ := inv_d I
  have ti := I.2.1.2.1
  have e0 : (0 : Int32).toInt = 0 := rfl
  have e9 : (9 : Int32).toInt = 9 := rfl
  have e99 : (99 : Int32).toInt = 99 := rfl
  have e999 : (999 : Int32).toInt = 999 := rfl
  have q0 : (0 : Int64).toInt = 0 := rfl
  have q9 : (9 : Int64).toInt = 9 := rfl
  have q99 : (99 : Int64).toInt = 99 := rfl
  have q999 : (999 : Int64).toInt = 999 := rfl
  by_cases hx : 0 ≤ x.toInt ∧ x.toInt ≤ 3
  · obtain ⟨k, hk, rfl⟩ := i_upto (x := x) (m := 3) hx (by omega)
    by_cases hk2 : k < 2
    · rcases (show k = 0 ∨ k = 1 by omega) with rfl | rfl
      · by_cases hv : 0 ≤ v.toInt ∧ v.toInt ≤ 99
        · refine ⟨J.2 7 1, wI J 7 1 v, wI (wI J 7 1 v) 46 7 v, ?_, ?_, E, s, t, n, z, ?_, zIA_wr (by omega) I.1⟩
          · refine (if_pos rfl).trans ?_
            unfold F_X6_setForAll
            rw [if_neg (by rw [i_lt]; omega)]
            show Option.bind (if (99 : Int32) < v then _ else _) _ = _
            rw [if_neg (by rw [i_lt]; omega)]
            rfl
          · unfold F_X7_set
            rw [b_inI, Option.bind_some, zOne_t (by decide)]
            refine (if_neg (by first | exact n10 | decide)).trans ((if_neg (by first | exact n10 | decide)).trans ?_)
            unfold F_X7_set_25 F_X7_isValue
            show Option.bind (Option.bind (F_X7_in v.toInt64 0 99 _) _) _ = _
            rw [b_inI, Option.bind_some, zOne_t (by rw [q0, q99]; exact hv)]
            show some ((wI J 7 1 v).2 46 7, _) = _
            rw [show (wI J 7 1 v).2 46 7 = J.2 7 1 from ti.2.2.1]
          · refine inv_W (w' := zWr (zW 7 J) 0 1 v) I rfl (fun b hb => by rw [wI_ne (by omega), wI_ne (by omega)]) (fun k _ _ _ _ => by rw [wI_get, if_neg (by omega), wI_ne (by omega)]) (veW (fun b _ _ => wI_ne (by omega)) (ve_wr (a := 7) zVe.rf)) (good_f g (by omega)) (tie_wf (J := wI J 7 1 v) (tieJ (fun b _ _ => wI_ne (by omega)) (fun k _ => by rw [wI_ne (by omega)]) ti) (by omega)) (fun i _ => zWr_o (by omega)) ((zWr_o (by omega)).trans ht) htn
        · refine zAns.q I (-2) ⟨J, ?_, zFrC.rf⟩ (fun J1 I1 ti1 => ⟨J1, ?_, zFrR.rf, ti1⟩)
          · refine (if_pos rfl).trans ?_
            unfold F_X6_setForAll
            by_cases h1 : v < (0 : Int32)
            · rw [if_pos h1]; rfl
            · rw [if_neg h1]
              show Option.bind (if (99 : Int32) < v then _ else _) _ = _
              rw [if_pos (by rw [i_lt] at h1 ⊢; omega)]
              rfl
          · unfold F_X7_set
            rw [b_inI, Option.bind_some, zOne_t (by decide)]
            refine (if_neg (by first | exact n10 | decide)).trans ((if_neg (by first | exact n10 | decide)).trans ?_)
            unfold F_X7_set_25 F_X7_isValue
            show Option.bind (Option.bind (F_X7_in v.toInt64 0 99 _) _) _ = _
            rw [b_inI, Option.bind_some, zOne_f (by rw [q0, q99]; exact hv)]
            rfl
      · by_cases hv : 0 ≤ v.toInt ∧ v.toInt ≤ 999
        · refine ⟨J.2 7 2, wI J 7 2 v, wI (wI J 7 2 v) 46 8 v, ?_, ?_, E, s, t, n, z, ?_, zIA_wr (by omega) I.1⟩
          · refine (if_neg (by first | exact n10 | decide)).trans ((if_pos rfl).trans ?_)
            unfold F_X6_setForAll
            rw [if_neg (by rw [i_lt]; omega)]
            show Option.bind (if (999 : Int32) < v then _ else _) _ = _
            rw [if_neg (by rw [i_lt]; omega)]
            rfl
          · unfold F_X7_set
            rw [b_inI, Option.bind_some, zOne_t (by decide)]
            refine (if_neg (by first | exact n10 | decide)).trans ((if_neg (by first | exact n10 | decide)).trans ?_)
            unfold F_X7_set_25 F_X7_isValue
            show Option.bind (Option.bind (F_X7_in v.toInt64 0 999 _) _) _ = _
            rw [b_inI, Option.bind_some, zOne_t (by rw [q0, q999]; exact hv)]
            show some ((wI J 7 2 v).2 46 8, _) = _
            rw [show (wI J 7 2 v).2 46 8 = J.2 7 2 from ti.2.2.2.1]
          · refine inv_W (w' := zWr (zW 7 J) 0 2 v) I rfl (fun b hb => by rw [wI_ne (by omega), wI_ne (by omega)]) (fun k _ _ _ _ => by rw [wI_get, if_neg (by omega), wI_ne (by omega)]) (veW (fun b _ _ => wI_ne (by omega)) (ve_wr (a := 7) zVe.rf)) (good_f g (by omega)) (tie_wf (J := wI J 7 2 v) (tieJ (fun b _ _ => wI_ne (by omega)) (fun k _ => by rw [wI_ne (by omega)]) ti) (by omega)) (fun i _ => zWr_o (by omega)) ((zWr_o (by omega)).trans ht) htn
        · refine zAns.q I (-2) ⟨J, ?_, zFrC.rf⟩ (fun J1 I1 ti1 => ⟨J1, ?_, zFrR.rf, ti1⟩)
          · refine (if_neg (by first | exact n10 | decide)).trans ((if_pos rfl).trans ?_)
            unfold F_X6_setForAll
            by_cases h1 : v < (0 : Int32)
            · rw [if_pos h1]; rfl
            · rw [if_neg h1]
              show Option.bind (if (999 : Int32) < v then _ else _) _ = _
              rw [if_pos (by rw [i_lt] at h1 ⊢; omega)]
              rfl
          · unfold F_X7_set
            rw [b_inI, Option.bind_some, zOne_t (by decide)]
            refine (if_neg (by first | exact n10 | decide)).trans ((if_neg (by first | exact n10 | decide)).trans ?_)
            unfold F_X7_set_25 F_X7_isValue
            show Option.bind (Option.bind (F_X7_in v.toInt64 0 999 _) _) _ = _
            rw [b_inI, Option.bind_some, zOne_f (by rw [q0, q999]; exact hv)]
            rfl
    · have hlt : (1 : Int32) < nI k := by rw [i_lt, i_nI (by omega)]; show (1 : Int) < k; omega
      have n0 : ¬ nI k = (0 : Int32) := fun e => by have := i_inj (by omega) (by omega) (e.trans (show (0 : Int32) = nI 0 from rfl)); omega
      have n1 : ¬ nI k = (1 : Int32) := fun e => by have := i_inj (by omega) (by omega) (e.trans (show (1 : Int32) = nI 1 from rfl)); omega
      by_cases hof : 0 ≤ of.toInt ∧ of.toInt < s
      · obtain ⟨i, hi, rfl⟩ := w_one g hof
        have hx8 : zzIx (nI i) 8 := i_ix (by omega) (by omega)
        have hc : (nI i).toNatClampNeg = i := i_cm (by omega)
        have cl : ∀ q : Option (Int32 × zzJ), (if nI k = (2 : Int32) then (if v < (0 : Int32) then F_X6_set_58 (nI k) (nI i) v J else (if (9 : Int32) < v then F_X6_set_58 (nI k) (nI i) v J else (Option.bind (F_X6_swapItem 9 (nI i) v J) fun q15 => some (q15.1, q15.2)))) else F_X6_set_58 (nI k) (nI i) v J) = q → F_X6_set (nI k) (nI i) v J = q := by
          intro q hq
          unfold F_X6_set
          rw [if_neg n0, if_neg n1, c7_has I, Option.bind_some, zOne_t hof]
          exact (if_neg (by first | exact n10 | decide)).trans hq
        have rf : ∀ (J1 : zzJ) (q : Option (Int32 × zzJ)), zTieV J1 (zW 7 J) s → F_X7_set_25 (nI k) (nI i) v J1 = q → F_X7_set (nI k) (nI i) v J1 = q := by
          intro J1 q t1 hq
          unfold F_X7_set
          rw [b_inI, Option.bind_some, zOne_t (by exact hx)]
          refine (if_neg (by first | exact n10 | decide)).trans ((if_pos hlt).trans ?_)
          rw [r_isOne g t1, Option.bind_some, zOne_t hof]
          exact (if_neg (by first | exact n10 | decide)).trans hq
        have sw : ∀ rr, (rr = 2 ∨ rr = 3) → F_X6_swapItem (7 + rr) (nI i) v J = some (J.2 (7 + rr) i, wI J (7 + rr) i v) := by
          intro rr hrr
          have e8 : zKd (7 + rr) = 8 := by rcases hrr with rfl | rfl <;> rfl
          have ez : zSz (7 + rr) = 8 := by rcases hrr with rfl | rfl <;> rfl
          unfold F_X6_swapItem
          rw [b_itemAt e8 ez (by omega), if_pos (by rw [i_nI (by omega)]; omega), Option.bind_some]
          dsimp only
          rw [b_put e8 ez (by omega), if_pos (by rw [i_nI (by omega)]; omega), i_nI (by omega)]
          rfl
        have told : ∀ (rr : Nat) (J1 : zzJ), zTieV J1 (zW 7 J) s → (rr = 2 ∨ rr = 3) → F_X7_told (nI i) (nI rr) J1 = some (J.2 (7 + rr) i, J1) := by
          intro rr J1 t1 hrr
          unfold F_X7_told
          rcases hrr with rfl | rfl
          · rw [b_inI, Option.bind_some, zOne_t (by decide)]
            refine (if_neg (by first | exact n10 | decide)).trans ((if_pos (by decide)).trans ?_)
            rw [r_isOne g t1, Option.bind_some, zOne_t hof]
            refine (if_neg (by first | exact n10 | decide)).trans ((if_pos (by decide)).trans ((if_neg (by first | exact n10 | decide)).trans ((if_neg (by first | exact n10 | decide)).trans ((if_pos (by decide)).trans ((if_pos hx8).trans ?_)))))
            dsimp only
            rw [hc, (t1.1 i hi).2.1]
            rfl
          · rw [b_inI, Option.bind_some, zOne_t (by decide)]
            refine (if_neg (by first | exact n10 | decide)).trans ((if_pos (by decide)).trans ?_)
            rw [r_isOne g t1, Option.bind_some, zOne_t hof]
            refine (if_neg (by first | exact n10 | decide)).trans ((if_pos (by decide)).trans ((if_neg (by first | exact n10 | decide)).trans ((if_neg (by first | exact n10 | decide)).trans ((if_neg (by first | exact n10 | decide)).trans ((if_pos (by decide)).trans ((if_pos hx8).trans ?_))))))
            dsimp only
            rw [hc, (t1.1 i hi).2.2.1]
            rfl
        have fin : ∀ rr, (rr = 2 ∨ rr = 3) → zGoodV (zWr (zW 7 J) rr i v) s → zInv L xs E s t n z (wI (wI J (7 + rr) i v) (49 + rr) i v) := by
          intro rr hrr g2
          refine inv_W (w' := zWr (zW 7 J) rr i v) I rfl (fun b hb => by rw [wI_ne (by omega), wI_ne (by omega)]) (fun k _ _ _ _ => by rw [wI_ne (by omega), wI_ne (by omega)]) (veW (fun b _ _ => wI_ne (by omega)) (ve_wr (a := 7) zVe.rf)) g2 (tie_wr (J := wI J (7 + rr) i v) (tieJ (fun b _ _ => wI_ne (by omega)) (fun k _ => by rw [wI_ne (by omega)]) ti) (by omega) (by omega)) (fun i _ => zWr_o (by omega)) ((zWr_o (by omega)).trans ht) htn
        have ti1 : ∀ rr, (rr = 2 ∨ rr = 3) → zTieV (wI J (7 + rr) i v) (zW 7 J) s := fun rr hrr => tieJ (fun b _ _ => wI_ne (by omega)) (fun k _ => by rw [wI_ne (by omega)]) ti
        rcases (show k = 2 ∨ k = 3 by omega) with rfl | rfl
        · by_cases hv : 0 ≤ v.toInt ∧ v.toInt ≤ 9
          · refine ⟨J.2 9 i, wI J 9 i v, wI (wI J 9 i v) 51 i v, cl _ ?_, rf _ _ (ti1 2 (Or.inl rfl)) ?_, E, s, t, n, z, fin 2 (Or.inl rfl) ?_, zIA_wr (by omega) I.1⟩
            · refine (if_pos rfl).trans ?_
              rw [if_neg (by rw [i_lt]; omega), if_neg (by rw [i_lt]; omega), sw 2 (Or.inl rfl)]
              rfl
            · unfold F_X7_set_25 F_X7_isValue
              show Option.bind (Option.bind (F_X7_in v.toInt64 0 9 _) _) _ = _
              rw [b_inI, Option.bind_some, zOne_t (by rw [q0, q9]; exact hv)]
              show Option.bind (F_X7_told (nI i) (nI 2) _) _ = _
              rw [told 2 _ (ti1 2 (Or.inl rfl)) (Or.inl rfl), Option.bind_some]
              show Option.bind (if zzIx (nI i) 8 then _ else _) _ = _
              rw [if_pos hx8, hc]
              rfl
            · refine ⟨g.1, (zWr_o (by omega)).trans g.2.1, fun j hj => ?_, fun k hk => ?_⟩
              · have q := g.2.2.1 j hj
                rw [zWr_r (r' := 1) (by omega), zWr_r (r' := 3) (by omega), zWr_r (r' := 4) (by omega), zWr_r (r' := 5) (by omega)]
                refine ⟨q.1, ?_, q.2.2.1, q.2.2.2⟩
                by_cases hji : j = i
                · subst hji
                  rw [zWr_s]
                  obtain ⟨k, hk, e⟩ := i_upto (x := v) (m := 9) hv (by omega)
                  exact ⟨k, by omega, e⟩
                · rw [zWr_o (by omega)]; exact q.2.1
              · rw [zWr_r (by omega), zWr_r (by omega)]
                exact g.2.2.2 k hk
          · refine zAns.q I (-2) ⟨J, cl _ ?_, zFrC.rf⟩ (fun J1 I1 ti1 => ⟨J1, rf _ _ ti1 ?_, zFrR.rf, ti1⟩)
            · refine (if_pos rfl).trans ?_
              have e58 : F_X6_set_58 (nI 2) (nI i) v J = some (-2, J) := rfl
              rw [e58]
              by_cases h1 : v < (0 : Int32)
              · rw [if_pos h1]
              · rw [if_neg h1, if_pos (by rw [i_lt] at h1 ⊢; omega)]
            · unfold F_X7_set_25 F_X7_isValue
              show Option.bind (Option.bind (F_X7_in v.toInt64 0 9 _) _) _ = _
              rw [b_inI, Option.bind_some, zOne_f (by rw [q0, q9]; exact hv)]
              rfl
        · by_cases hv : v = -1 ∨ ((0 ≤ v.toInt ∧ v.toInt < s) ∧ v ≠ nI i)
          · refine ⟨J.2 10 i, wI J 10 i v, wI (wI J 10 i v) 52 i v, cl _ ?_, rf _ _ (ti1 3 (Or.inr rfl)) ?_, E, s, t, n, z, fin 3 (Or.inr rfl) ?_, zIA_wr (by omega) I.1⟩
            · refine (if_neg (by first | exact n10 | decide)).trans ?_
              have e84 : F_X6_set_84 (nI i) v J = some (J.2 10 i, wI J 10 i v) := by
                unfold F_X6_set_84
                rw [sw 3 (Or.inr rfl)]
                rfl
              unfold F_X6_set_58
              rw [if_pos (by decide), e84]
              rcases hv with hv | ⟨hv, hv2⟩
              · rw [if_neg (by rw [hv]; exact fun e => i_nm1 (by omega) e.symm), if_pos hv]
              · rw [if_neg hv2, c7_has I, Option.bind_some, zOne_t hv]
                split
                · rfl
                · exact (if_neg n10).trans e84
            · unfold F_X7_set_25
              have eV : F_X7_isValue (nI 3) (nI i) v (wI J 10 i v) = some (1, wI J 10 i v) := by
                unfold F_X7_isValue
                rw [if_pos (by decide)]
                rcases hv with hv | ⟨hv, hv2⟩
                · rw [if_pos hv]
                · rw [if_neg (by intro e; rw [e] at hv; exact absurd hv.1 (by decide)), r_isOne g (ti1 3 (Or.inr rfl)), Option.bind_some, zOne_t hv]
                  refine (if_neg (by first | exact n10 | decide)).trans ?_
                  rw [if_neg hv2]
              rw [eV, Option.bind_some]
              show Option.bind (F_X7_told (nI i) (nI 3) _) _ = _
              rw [told 3 _ (ti1 3 (Or.inr rfl)) (Or.inr rfl), Option.bind_some]
              show Option.bind (if zzIx (nI i) 8 then _ else _) _ = _
              rw [if_pos hx8, hc]
              rfl
            · refine ⟨g.1, (zWr_o (by omega)).trans g.2.1, fun j hj => ?_, fun k hk => ?_⟩
              · have q := g.2.2.1 j hj
                rw [zWr_r (r' := 1) (by omega), zWr_r (r' := 2) (by omega), zWr_r (r' := 4) (by omega), zWr_r (r' := 5) (by omega)]
                refine ⟨q.1, q.2.1, ?_, q.2.2.2⟩
                by_cases hji : j = i
                · subst hji
                  rw [zWr_s]
                  rcases hv with hv | ⟨hv, hv2⟩
                  · exact Or.inl hv
                  · obtain ⟨k, hk, e⟩ := w_one g hv
                    exact Or.inr ⟨k, hk, fun e2 => hv2 (by rw [e, e2]), e⟩
                · rw [zWr_o (by omega)]; exact q.2.2.1
              · rw [zWr_r (by omega), zWr_r (by omega)]
                exact g.2.2.2 k hk
          · have nv1 : ¬ v = -1 := fun e => hv (Or.inl e)
            refine zAns.q I (-2) ⟨J, cl _ ?_, zFrC.rf⟩ (fun J1 I1 ti1 => ⟨J1, rf _ _ ti1 ?_, zFrR.rf, ti1⟩)
            · refine (if_neg (by first | exact n10 | decide)).trans ?_
              unfold F_X6_set_58
              rw [if_pos (by decide)]
              by_cases h1 : v = nI i
              · rw [if_pos h1]
              · rw [if_neg h1, if_neg nv1, c7_has I, Option.bind_some, zOne_f (fun q => hv (Or.inr ⟨q, h1⟩))]
                exact if_pos rfl
            · unfold F_X7_set_25
              have eV : F_X7_isValue (nI 3) (nI i) v J1 = some (0, J1) := by
                unfold F_X7_isValue
                rw [if_pos (by decide), if_neg nv1, r_isOne g ti1, Option.bind_some]
                by_cases h1 : 0 ≤ v.toInt ∧ v.toInt < s
                · rw [zOne_t h1]
                  refine (if_neg (by first | exact n10 | decide)).trans ?_
                  rw [if_pos (Classical.byContradiction fun e => hv (Or.inr ⟨h1, e⟩))]
                · rw [zOne_f h1]
                  exact if_pos rfl
              rw [eV]
              rfl
      · refine zAns.q I (-2) ⟨J, ?_, zFrC.rf⟩ (fun J1 I1 ti1 => ⟨J1, ?_, zFrR.rf, ti1⟩)
        · unfold F_X6_set
          rw [if_neg n0, if_neg n1, c7_has I, Option.bind_some, zOne_f hof]
          exact if_pos rfl
        · unfold F_X7_set
          rw [b_inI, Option.bind_some, zOne_t (by exact hx)]
          refine (if_neg (by first | exact n10 | decide)).trans ((if_pos hlt).trans ?_)
          rw [r_isOne g ti1, Option.bind_some, zOne_f hof]
          exact if_pos rfl
  · have ne : ∀ c : Int32, 0 ≤ c.toInt ∧ c.toInt ≤ 3 → ¬ x = c := fun c hc e => hx (by rw [e]; exact hc)
    refine zAns.q I (-2) ⟨J, ?_, zFrC.rf⟩ (fun J1 I1 ti1 => ⟨J1, ?_, zFrR.rf, ti1⟩)
    · unfold F_X6_set
      rw [if_neg (ne 0 (by decide)), if_neg (ne 1 (by decide)), c7_has I, Option.bind_some]
      have e58 : F_X6_set_58 x of v J = some (-2, J) := by
        unfold F_X6_set_58
        rw [if_neg (ne 3 (by decide))]
      dsimp only
      by_cases h1 : 0 ≤ of.toInt ∧ of.toInt < s
      · rw [zOne_t h1, if_neg (by first | exact n10 | decide), if_neg (ne 2 (by decide)), e58]
      · rw [zOne_f h1, if_pos rfl]
    · unfold F_X7_set
      rw [b_inI, Option.bind_some, zOne_f (by exact hx)]
      exact if_pos rfl
end ST
