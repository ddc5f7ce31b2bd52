/-! the calls: told, who, all, count, force, taken, set, passenger, sit, feed -/
theorem b_inI {x : Int32} {lo hi : Int64} {J : zzJ} : F_X7_in x.toInt64 lo hi J = some (zOne (lo.toInt ≤ x.toInt ∧ x.toInt ≤ hi.toInt), J) := by
  rw [b_in, l_of]; rfl
theorem zOne_01 {c : Prop} {_ : Decidable c} : (zOne c = 0 ∨ zOne c = 1) ↔ True := by
  unfold zOne
  split <;> simp
theorem zOne_t {c : Prop} {_ : Decidable c} (h : c) : zOne c = 1 := if_pos h
theorem zOne_f {c : Prop} {_ : Decidable c} (h : ¬ c) : zOne c = 0 := if_neg h
theorem i_pred : ∀ s, s < 9 → (nI s - 1).toInt = (s : Int) - 1 := by decide
theorem i_upto {x : Int32} {m : Nat} (h : 0 ≤ x.toInt ∧ x.toInt ≤ m) (hm : m < 2147483648) : ∃ k, k ≤ m ∧ x = nI k := by
  obtain ⟨k, hk, _, h3⟩ := i_nat h.1
  exact ⟨k, by omega, hk⟩
section CA
variable {L : Nat} {xs : Nat → Int32} {E : zEv2} {s t n z : Nat} {J : zzJ} {w : zVw} {x y v : Int32}
theorem r_isOne (g : zGoodV w s) (ti : zTieV J w s) : F_X7_isOne x J = some (zOne (0 ≤ x.toInt ∧ x.toInt < s), J) := by
  have h8 := g.1
  have e : (J.2 46 14 - 1).toInt64.toInt = (s : Int) - 1 := by rw [l_of, ti.2.2.2.2.2, g.2.1, i_pred s (by omega)]
  have e0 : (0 : Int64).toInt = 0 := rfl
  unfold F_X7_isOne
  simp only [b_inI, Option.bind_some, zOne_01, if_true, e, e0]
  congr 2
  unfold zOne
  by_cases h : 0 ≤ x.toInt ∧ x.toInt < s
  · rw [if_pos h, if_pos (by omega)]
  · rw [if_neg h, if_neg (by omega)]
theorem r_isSeat : F_X7_isSeat x J = some (zOne (0 ≤ x.toInt ∧ x.toInt < 24), J) := by
  have e0 : (0 : Int64).toInt = 0 := rfl
  have e1 : (23 : Int64).toInt = 23 := rfl
  unfold F_X7_isSeat
  simp only [b_inI, Option.bind_some, zOne_01, if_true, e1, e0]
  congr 2
  unfold zOne
  by_cases h : 0 ≤ x.toInt ∧ x.toInt < 24
  · rw [if_pos h, if_pos (by omega)]
  · rw [if_neg h, if_neg (by omega)]
theorem w_has (g : zGoodV w s) : zHas w x ↔ (0 ≤ x.toInt ∧ x.toInt < s) := by
  have h8 := g.1
  unfold zHas
  rw [g.2.1, i_nI (by omega)]
theorem w_one (g : zGoodV w s) (h : 0 ≤ x.toInt ∧ x.toInt < s) : ∃ i, i < s ∧ x = nI i := by
  have h8 := g.1
  obtain ⟨k, hk, _, h3⟩ := i_nat h.1
  exact ⟨k, by omega, hk⟩
theorem w_oneI (g : zGoodV w s) {i : Nat} (h : i < s) : 0 ≤ (nI i).toInt ∧ (nI i).toInt < s := by
  have h8 := g.1
  rw [i_nI (by omega)]
  omega
/-- what a good coach 7 says at once -/
theorem c7_has (I : zInv L xs E s t n z J) : F_X0_has 7 x J = some (zOne (0 ≤ x.toInt ∧ x.toInt < s), J) := by
  rw [cw_has zC7]
  congr 2
  unfold zOne
  have := w_has (x := x) I.2.1.1
  by_cases h : 0 ≤ x.toInt ∧ x.toInt < s
  · rw [if_pos h, if_pos (this.2 h)]
  · rw [if_neg h, if_neg (fun q => h (this.1 q))]
theorem c_who (I : zInv L xs E s t n z J) : zAns L xs (F_X6_who x) (F_X7_who x) J := by
  have g := I.2.1.1
  by_cases h : 0 ≤ x.toInt ∧ x.toInt < 24
  · obtain ⟨k, hk, rfl⟩ := i_upto (x := x) (m := 23) (by omega) (by omega)
    refine zAns.qry I (J.2 12 k) ⟨J, ?_, zFrC.rf⟩ (fun J1 I1 hb => ⟨J1, ?_, zFrR.rf, I1.2.1.2.1⟩)
    · unfold F_X6_who
      rw [if_neg (by rw [i_lt, i_nI (by omega)]; show ¬ (k : Int) < 0; omega), if_pos (by rw [i_lt, i_nI (by omega)]; show (k : Int) < 24; omega), cw_sitterAt zC7]
      show some (zIt (J.2 12) 24 (nI k) (-1), J) = _
      rw [zIt_nI (by omega) (by omega)]
    · unfold F_X7_who
      rw [r_isSeat, Option.bind_some, zOne_t h, if_neg (by first | exact n10 | decide), if_pos (i_ix (by omega) (by omega)), i_cm (by omega)]
      congr 2
      rw [I1.2.1.2.1.2.1 k (by omega)]
      show J1.2 12 k = _
      rw [hb 12 (by omega) (by omega)]
  · refine zAns.qry I (-2) ⟨J, ?_, zFrC.rf⟩ (fun J1 I1 hb => ⟨J1, ?_, zFrR.rf, I1.2.1.2.1⟩)
    · unfold F_X6_who
      by_cases h1 : x < 0
      · rw [if_pos h1]
      · rw [if_neg h1, if_neg]
        rw [i_lt] at h1 ⊢
        have e0 : (0 : Int32).toInt = 0 := rfl
        have e1 : (24 : Int32).toInt = 24 := rfl
        omega
    · unfold F_X7_who
      rw [r_isSeat, Option.bind_some, zOne_f h, if_pos rfl]
theorem c_told (I : zInv L xs E s t n z J) : zAns L xs (F_X6_told x y) (F_X7_told x y) J := by
  have g := I.2.1.1
  have h8 := g.1
  have ht := I.2.1.2.2.1
  have htn := I.2.1.2.2.2
  have e0 : (0 : Int64).toInt = 0 := rfl
  have e9 : (9 : Int64).toInt = 9 := rfl
  by_cases hy : 0 ≤ y.toInt ∧ y.toInt ≤ 9
  · obtain ⟨k, hk, rfl⟩ := i_upto (x := y) (m := 9) hy (by omega)
    by_cases hk2 : k < 2
    · rcases (show k = 0 ∨ k = 1 by omega) with rfl | rfl
      · refine zAns.qry I (J.2 7 1) ⟨J, rfl, zFrC.rf⟩ (fun J1 I1 hb => ⟨J1, ?_, zFrR.rf, I1.2.1.2.1⟩)
        unfold F_X7_told
        rw [b_inI, Option.bind_some, zOne_t (by decide)]
        refine (if_neg (by first | exact n10 | decide)).trans ((if_neg (by first | exact n10 | decide)).trans ?_)
        show some (J1.2 46 7, J1) = _
        rw [I1.2.1.2.1.2.2.1]
        show some (J1.2 7 1, J1) = _
        rw [hb 7 (by omega) (by omega)]
      · refine zAns.qry I (J.2 7 2) ⟨J, rfl, zFrC.rf⟩ (fun J1 I1 hb => ⟨J1, ?_, zFrR.rf, I1.2.1.2.1⟩)
        unfold F_X7_told
        rw [b_inI, Option.bind_some, zOne_t (by decide)]
        refine (if_neg (by first | exact n10 | decide)).trans ((if_neg (by first | exact n10 | decide)).trans ?_)
        show some (J1.2 46 8, J1) = _
        rw [I1.2.1.2.1.2.2.2.1]
        show some (J1.2 7 2, J1) = _
        rw [hb 7 (by omega) (by omega)]
    · have hlt : (1 : Int32) < nI k := by rw [i_lt, i_nI (by omega)]; show (1 : Int) < k; omega
      have n0 : ¬ nI k = (0 : Int32) := fun e => by have := i_inj (by omega) (by omega) (e.trans (show (0 : Int32) = nI 0 from rfl)); omega
      have n1 : ¬ nI k = (1 : Int32) := fun e => by have := i_inj (by omega) (by omega) (e.trans (show (1 : Int32) = nI 1 from rfl)); omega
      by_cases hx : 0 ≤ x.toInt ∧ x.toInt < s
      · obtain ⟨i, hi, rfl⟩ := w_one g hx
        have key : ∀ v : Int32, (∃ J1, F_X6_told (nI i) (nI k) J = some (v, J1) ∧ zFrC J J1) → (∀ J1, zInv L xs E s t n z J1 → (∀ b, 6 < b → b < 13 → J1.2 b = J.2 b) → ∃ J2, F_X7_told_28 (nI i) (nI k) J1 = some (v, J2) ∧ zLow J1 J2) → zAns L xs (F_X6_told (nI i) (nI k)) (F_X7_told (nI i) (nI k)) J := by
          intro v h1 h2
          refine zAns.qry I v h1 (fun J1 I1 hb => ?_)
          obtain ⟨J2, a, b⟩ := h2 J1 I1 hb
          refine ⟨J2, ?_, b.fr, b.tie I1.2.1.2.1⟩
          unfold F_X7_told
          rw [b_inI, Option.bind_some, zOne_t (by rw [e0, e9]; exact hy)]
          refine (if_neg (by first | exact n10 | decide)).trans ((if_pos hlt).trans ?_)
          rw [r_isOne g (zVe_tie (veW (fun b x y => hb b (by omega) (by omega)) zVe.rf).sy h8 I1.2.1.2.1), Option.bind_some, zOne_t hx]
          exact (if_neg (by first | exact n10 | decide)).trans a
        have cl : ∀ q : Option (Int32 × zzJ), (if nI k = 2 then Option.bind (F_X0_numberOf 7 (nI i) J) fun q6 => some (q6.1, q6.2) else (if nI k = 3 then (Option.bind (F_X0_friendOf 7 (nI i) J) fun q8 => some (q8.1, q8.2)) else (if nI k = 4 then (Option.bind (F_X0_kindOf 7 (nI i) J) fun q10 => some (q10.1, q10.2)) else (if nI k = 5 then (Option.bind (F_X0_seatOf 7 (nI i) J) fun q12 => some (q12.1, q12.2)) else (if nI k = 6 then (Option.bind (F_X0_noise 7 (nI i) J) fun q14 => some (q14.1, q14.2)) else (if nI k = 7 then (Option.bind (F_X0_queasy 7 (nI i) (J.2 7 1) J) fun q16 => some (q16.1, q16.2)) else (if nI k = 8 then (Option.bind (F_X0_neighbours 7 (nI i) J) fun q18 => some (q18.1, q18.2)) else (if nI k = 9 then (Option.bind (F_X0_isWatched 7 (nI i) J) fun q20 => (if q20.1 = (0 : Int32) then some ((0 : Int32), q20.2) else some ((1 : Int32), q20.2))) else some ((-2 : Int32), J))))))))) = q → F_X6_told (nI i) (nI k) J = q := by
          intro q hq
          unfold F_X6_told
          rw [if_neg n0, if_neg n1, c7_has I, Option.bind_some, zOne_t hx]
          exact (if_neg (by first | exact n10 | decide)).trans hq
        have hx8 : zzIx (nI i) 8 := i_ix (by omega) (by omega)
        have hc : (nI i).toNatClampNeg = i := i_cm (by omega)
        have tj : ∀ J1 : zzJ, zInv L xs E s t n z J1 → (∀ b, 6 < b → b < 13 → J1.2 b = J.2 b) → zTieV J1 (zW 7 J) s := fun J1 I1 hb => zVe_tie (veW (fun b x y => hb b (by omega) (by omega)) zVe.rf).sy h8 I1.2.1.2.1
        rcases (show k = 2 ∨ k = 3 ∨ k = 4 ∨ k = 5 ∨ k = 6 ∨ k = 7 ∨ k = 8 ∨ k = 9 by omega) with rfl | rfl | rfl | rfl | rfl | rfl | rfl | rfl
        · refine key (J.2 9 i) ⟨J, cl _ ?_, zFrC.rf⟩ (fun J1 I1 hb => ⟨J1, ?_, zLow.rf⟩)
          · refine (if_pos rfl).trans ?_
            rw [co_numberOf zC7, i_nI (by omega), if_pos (by omega)]
            rfl
          · refine (if_pos (by decide)).trans ((if_neg (by first | exact n10 | decide)).trans ((if_neg (by first | exact n10 | decide)).trans ((if_pos (by decide)).trans ((if_pos hx8).trans ?_))))
            rw [hc, ((tj J1 I1 hb).1 i hi).2.1]
            rfl
        · refine key (J.2 10 i) ⟨J, cl _ ?_, zFrC.rf⟩ (fun J1 I1 hb => ⟨J1, ?_, zLow.rf⟩)
          · refine (if_neg (by first | exact n10 | decide)).trans ((if_pos rfl).trans ?_)
            rw [co_friendOf zC7, i_nI (by omega), if_pos (by omega)]
            rfl
          · refine (if_pos (by decide)).trans ((if_neg (by first | exact n10 | decide)).trans ((if_neg (by first | exact n10 | decide)).trans ((if_neg (by first | exact n10 | decide)).trans ((if_pos (by decide)).trans ((if_pos hx8).trans ?_)))))
            rw [hc, ((tj J1 I1 hb).1 i hi).2.2.1]
            rfl
        · refine key (J.2 8 i) ⟨J, cl _ ?_, zFrC.rf⟩ (fun J1 I1 hb => ⟨J1, ?_, zLow.rf⟩)
          · refine (if_neg (by first | exact n10 | decide)).trans ((if_neg (by first | exact n10 | decide)).trans ((if_pos rfl).trans ?_))
            rw [co_kindOf zC7, i_nI (by omega), if_pos (by omega)]
            rfl
          · refine (if_pos (by decide)).trans ((if_neg (by first | exact n10 | decide)).trans ((if_neg (by first | exact n10 | decide)).trans ((if_neg (by first | exact n10 | decide)).trans ((if_neg (by first | exact n10 | decide)).trans ((if_pos hx8).trans ?_)))))
            rw [hc, ((tj J1 I1 hb).1 i hi).1]
            rfl
        · refine key (J.2 11 i) ⟨J, cl _ ?_, zFrC.rf⟩ (fun J1 I1 hb => ⟨J1, ?_, zLow.rf⟩)
          · refine (if_neg (by first | exact n10 | decide)).trans ((if_neg (by first | exact n10 | decide)).trans ((if_neg (by first | exact n10 | decide)).trans ((if_pos rfl).trans ?_)))
            rw [cw_seatOf zC7, zSeat_nI g hi]
            rfl
          · refine (if_neg (by first | exact n10 | decide)).trans ((if_pos (by decide)).trans ((if_pos hx8).trans ?_))
            rw [hc, ((tj J1 I1 hb).1 i hi).2.2.2]
            rfl
        · obtain ⟨J2, e2, s2⟩ := cw_noise (x := nI i) zC7 I.2.2.1.2.2.2.1.at ht htn
          refine key (zNoise E (zW 7 J) t (nI i)) ⟨J2, cl _ ?_, s2.fr (Or.inl rfl)⟩ (fun J1 I1 hb => ?_)
          · refine (if_neg (by first | exact n10 | decide)).trans ((if_neg (by first | exact n10 | decide)).trans ((if_neg (by first | exact n10 | decide)).trans ((if_neg (by first | exact n10 | decide)).trans ((if_pos rfl).trans ?_))))
            rw [e2]
            rfl
          · obtain ⟨J3, e3, l3⟩ := r_noise g (tj J1 I1 hb) hi I1.2.2.1.2.2.2.2.at ht htn
            refine ⟨J3, (if_neg (by first | exact n10 | decide)).trans ((if_neg (by first | exact n10 | decide)).trans ((if_pos (by decide)).trans ?_)), l3⟩
            rw [e3]
            rfl
        · obtain ⟨J2, e2, s2⟩ := cw_queasy (x := nI i) (m := J.2 7 1) zC7 I.2.2.1.2.2.2.1.at ht htn
          refine key (zQueasy E (zW 7 J) t (nI i) (J.2 7 1)) ⟨J2, cl _ ?_, s2.fr (Or.inl rfl)⟩ (fun J1 I1 hb => ?_)
          · refine (if_neg (by first | exact n10 | decide)).trans ((if_neg (by first | exact n10 | decide)).trans ((if_neg (by first | exact n10 | decide)).trans ((if_neg (by first | exact n10 | decide)).trans ((if_neg (by first | exact n10 | decide)).trans ((if_pos rfl).trans ?_)))))
            rw [e2]
            rfl
          · obtain ⟨J3, e3, l3⟩ := r_queasy (m := J.2 7 1) g (tj J1 I1 hb) hi I1.2.2.1.2.2.2.2.at ht htn
            refine ⟨J3, (if_neg (by first | exact n10 | decide)).trans ((if_neg (by first | exact n10 | decide)).trans ((if_neg (by first | exact n10 | decide)).trans ((if_pos (by decide)).trans ?_))), l3⟩
            rw [(tj J1 I1 hb).2.2.1]
            show Option.bind (F_X7_queasyOf (nI i) (J.2 7 1) J1) _ = _
            rw [e3]
            rfl
        · refine key (zBes (zW 7 J) (nI i)) ⟨J, cl _ ?_, zFrC.rf⟩ (fun J1 I1 hb => ⟨J1, ?_, zLow.rf⟩)
          · refine (if_neg (by first | exact n10 | decide)).trans ((if_neg (by first | exact n10 | decide)).trans ((if_neg (by first | exact n10 | decide)).trans ((if_neg (by first | exact n10 | decide)).trans ((if_neg (by first | exact n10 | decide)).trans ((if_neg (by first | exact n10 | decide)).trans ((if_pos rfl).trans ?_))))))
            rw [cw_neighbours zC7]
            rfl
          · refine (if_neg (by first | exact n10 | decide)).trans ((if_neg (by first | exact n10 | decide)).trans ((if_neg (by first | exact n10 | decide)).trans ((if_neg (by first | exact n10 | decide)).trans ((if_pos (by decide)).trans ?_))))
            rw [r_beside g (tj J1 I1 hb) hi]
            rfl
        · refine key (zOne (zWat (zW 7 J) (nI i))) ⟨J, cl _ ?_, zFrC.rf⟩ (fun J1 I1 hb => ⟨J1, ?_, zLow.rf⟩)
          · refine (if_neg (by first | exact n10 | decide)).trans ((if_neg (by first | exact n10 | decide)).trans ((if_neg (by first | exact n10 | decide)).trans ((if_neg (by first | exact n10 | decide)).trans ((if_neg (by first | exact n10 | decide)).trans ((if_neg (by first | exact n10 | decide)).trans ((if_neg (by first | exact n10 | decide)).trans ((if_pos rfl).trans ?_)))))))
            rw [cw_isWatched zC7, Option.bind_some]
            dsimp only
            unfold zOne
            by_cases hw : zWat (zW 7 J) (nI i)
            · rw [if_pos hw]; rfl
            · rw [if_neg hw]; rfl
          · refine (if_neg (by first | exact n10 | decide)).trans ((if_neg (by first | exact n10 | decide)).trans ((if_neg (by first | exact n10 | decide)).trans ((if_neg (by first | exact n10 | decide)).trans ((if_neg (by first | exact n10 | decide)).trans ?_))))
            rw [r_watched g (tj J1 I1 hb) hi, Option.bind_some]
            dsimp only
            unfold zOne
            by_cases hw : zWat (zW 7 J) (nI i)
            · rw [if_pos hw]; rfl
            · rw [if_neg hw]; rfl
      · refine zAns.qry I (-2) ⟨J, ?_, zFrC.rf⟩ (fun J1 I1 hb => ⟨J1, ?_, zFrR.rf, I1.2.1.2.1⟩)
        · unfold F_X6_told
          rw [if_neg n0, if_neg n1, c7_has I, Option.bind_some, zOne_f hx]
          exact if_pos rfl
        · unfold F_X7_told
          rw [b_inI, Option.bind_some, zOne_t (by rw [e0, e9]; exact hy)]
          refine (if_neg (by first | exact n10 | decide)).trans ((if_pos hlt).trans ?_)
          rw [r_isOne I1.2.1.1 I1.2.1.2.1, Option.bind_some, zOne_f hx]
          exact if_pos rfl
  · have ne : ∀ c : Int32, 0 ≤ c.toInt ∧ c.toInt ≤ 9 → ¬ y = c := fun c hc e => hy (by rw [e]; exact hc)
    refine zAns.qry I (-2) ⟨J, ?_, zFrC.rf⟩ (fun J1 I1 hb => ⟨J1, ?_, zFrR.rf, I1.2.1.2.1⟩)
    · unfold F_X6_told
      rw [if_neg (ne 0 (by decide)), if_neg (ne 1 (by decide)), c7_has I, Option.bind_some]
      dsimp only
      by_cases hx : 0 ≤ x.toInt ∧ x.toInt < s
      · rw [zOne_t hx, if_neg (by first | exact n10 | decide), if_neg (ne 2 (by decide)), if_neg (ne 3 (by decide)), if_neg (ne 4 (by decide)), if_neg (ne 5 (by decide)), if_neg (ne 6 (by decide)), if_neg (ne 7 (by decide)), if_neg (ne 8 (by decide)), if_neg (ne 9 (by decide))]
      · rw [zOne_f hx, if_pos rfl]
    · unfold F_X7_told
      rw [b_inI, Option.bind_some, zOne_f (by rw [e0, e9]; exact hy)]
      exact if_pos rfl
end CA
