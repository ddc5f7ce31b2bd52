/-! tells -/
section TC
variable {L : Nat} {xs : Nat → Int32} {E : zEv2} {s t n z : Nat} {J J1 J2 : zzJ} {w w' : zVw} {x y v off : Int32} {a r i h c k p : Nat} {it : Nat → Int32}
theorem good_1 (g : zGoodV w s) (hv : k < 6) : zGoodV (zWr w 1 p (nI k)) s := by
  refine ⟨g.1, (zWr_o (by omega)).trans g.2.1, fun j hj => ?_, fun q hq => ?_⟩
  · have q := g.2.2.1 j hj
    rw [zWr_r (r' := 2) (by omega), zWr_r (r' := 3) (by omega), zWr_r (r' := 4) (by omega), zWr_r (r' := 5) (by omega)]
    refine ⟨?_, q.2.1, q.2.2.1, q.2.2.2⟩
    by_cases hji : j = p
    · subst hji
      rw [zWr_s]
      exact ⟨k, hv, rfl⟩
    · rw [zWr_o (by omega)]; exact q.1
  · rw [zWr_r (by omega), zWr_r (by omega)]
    exact g.2.2.2 q hq
theorem good_2 (g : zGoodV w s) (hv : k < 10) : zGoodV (zWr w 2 p (nI k)) s := by
  refine ⟨g.1, (zWr_o (by omega)).trans g.2.1, fun j hj => ?_, fun q hq => ?_⟩
  · have q := g.2.2.1 j hj
    rw [zWr_r (r' := 1) (by omega), zWr_r (r' := 3) (by omega), zWr_r (r' := 4) (by omega), zWr_r (r' := 5) (by omega)]
    refine ⟨q.1, ?_, q.2.2.1, q.2.2.2⟩
    by_cases hji : j = p
    · subst hji
      rw [zWr_s]
      exact ⟨k, hv, rfl⟩
    · rw [zWr_o (by omega)]; exact q.2.1
  · rw [zWr_r (by omega), zWr_r (by omega)]
    exact g.2.2.2 q hq
theorem r_told24 (g : zGoodV w s) (ti : zTieV J w s) (hp : p < s) : F_X7_told (nI p) 2 J = some (J.2 51 p, J) ∧ F_X7_told (nI p) 4 J = some (J.2 50 p, J) := by
  have h8 := g.1
  have hx : zzIx (nI p) 8 := i_ix (by omega) (by omega)
  have hc : (nI p).toNatClampNeg = p := i_cm (by omega)
  have ho : 0 ≤ (nI p).toInt ∧ (nI p).toInt < s := by rw [i_nI (by omega)]; omega
  constructor
  · unfold F_X7_told
    rw [b_inI, Option.bind_some, zOne_t (by decide)]
    refine (if_neg n10).trans ((if_pos (by decide)).trans ?_)
    rw [r_isOne g ti, Option.bind_some, zOne_t ho]
    refine (if_neg n10).trans ((if_pos (by decide)).trans ((if_neg (by decide)).trans ((if_neg (by decide)).trans ((if_pos (by decide)).trans ((if_pos hx).trans ?_)))))
    rw [hc]
  · unfold F_X7_told
    rw [b_inI, Option.bind_some, zOne_t (by decide)]
    refine (if_neg n10).trans ((if_pos (by decide)).trans ?_)
    rw [r_isOne g ti, Option.bind_some, zOne_t ho]
    refine (if_neg n10).trans ((if_pos (by decide)).trans ((if_neg (by decide)).trans ((if_neg (by decide)).trans ((if_neg (by decide)).trans ((if_neg (by decide)).trans ((if_pos hx).trans ?_))))))
    rw [hc]
abbrev zTok (s k : Nat) : Prop := k < 4 ∨ (10 ≤ k ∧ k ≤ 39 ∧ k % 10 < s)
theorem c_tells (I : zInv L xs E s t n z J) : zAns L xs (F_X6_tells x y) (F_X7_tells x y) J := by
  obtain ⟨g, h8, ht, htn, h4, hC, hR⟩ := inv_d I
  have e0 : (0 : Int32).toInt = 0 := rfl
  have e3 : (3 : Int32).toInt = 3 := rfl
  have e10 : (10 : Int32).toInt = 10 := rfl
  have e40 : (40 : Int32).toInt = 40 := rfl
  have m0 : (0 : Int64).toInt = 0 := rfl
  have m3 : (3 : Int64).toInt = 3 := rfl
  have m10 : (10 : Int64).toInt = 10 := rfl
  have m39 : (39 : Int64).toInt = 39 := rfl
  have hasr : ∀ k, k < 1000 → F_X0_has 7 (zRem (nI k) 10) J = some (zOne (k % 10 < s), J) := fun k hk => by
    rw [rem10 hk, c7_has I, i_nI (by omega)]
    congr 2
    unfold zOne
    by_cases h : k % 10 < s
    · rw [if_pos h, if_pos (by omega)]
    · rw [if_neg h, if_neg (by omega)]
  have isr : ∀ (J1 : zzJ) k, zTieV J1 (zW 7 J) s → k < 1000 → F_X7_isOne (zRem (nI k) 10) J1 = some (zOne (k % 10 < s), J1) := fun J1 k ti hk => by
    rw [rem10 hk, r_isOne g ti, i_nI (by omega)]
    congr 2
    unfold zOne
    by_cases h : k % 10 < s
    · rw [if_pos h, if_pos (by omega)]
    · rw [if_neg h, if_neg (by omega)]
  by_cases hv : 0 ≤ x.toInt ∧ x.toInt < 4
  · obtain ⟨i, hi0, rfl⟩ := i_upto (x := x) (m := 3) (by omega) (by omega)
    have hi : i < 4 := by omega
    have hx4 : zzIx (nI i) 4 := i_ix (by omega) (by omega)
    have hc4 : (nI i).toNatClampNeg = i := i_cm (by omega)
    by_cases hy : ∃ k, y = nI k ∧ zTok s k
    · obtain ⟨k, rfl, hk⟩ := hy
      have hk40 : k < 40 := by rcases hk with h | h <;> omega
      have cl : ∀ q, F_X6_tells_72 (nI k) (38 + 2 * i) J = q → F_X6_tells (nI i) (nI k) J = q := by
        intro q hq
        unfold F_X6_tells F_X6_tells_19 F_X6_tells_20 F_X6_tells_52 F_X6_tells_53
        rw [b_sheet hi, Option.bind_some, if_neg (by rw [i_lt, i_nI (by omega)]; omega)]
        dsimp only
        rcases hk with hk | ⟨k1, k2, k3⟩
        · rw [if_neg (by rw [i_lt, i_nI (by omega)]; omega), if_pos (by rw [i_lt, i_nI (by omega)]; omega), if_neg n10]
          exact hq
        · rw [if_pos (by rw [i_lt, i_nI (by omega)]; omega), if_neg (by rw [i_lt, i_nI (by omega)]; omega), if_pos (by rw [i_lt, i_nI (by omega)]; omega), hasr k (by omega), Option.bind_some, zOne_t k3]
          refine (if_neg n10).trans ?_
          dsimp only
          rw [if_pos rfl, if_neg n10]
          exact hq
      have rl : ∀ (J1 : zzJ) q, zTieV J1 (zW 7 J) s → F_X7_tells_57 (nI i) (nI k) J1 = q → F_X7_tells (nI i) (nI k) J1 = q := by
        intro J1 q ti hq
        unfold F_X7_tells F_X7_tells_29 F_X7_tells_30
        rcases hk with hk | ⟨k1, k2, k3⟩
        · rw [b_inI, Option.bind_some, zOne_f (by rw [i_nI (by omega)]; omega)]
          refine (if_pos rfl).trans ?_
          dsimp only
          rw [r_isSheet, Option.bind_some, zOne_t hv]
          refine (if_neg n10).trans ?_
          dsimp only
          rw [b_inI, Option.bind_some, zOne_t (by rw [i_nI (by omega)]; omega)]
          exact (if_neg n10).trans hq
        · rw [b_inI, Option.bind_some, zOne_t (by rw [i_nI (by omega)]; omega)]
          refine (if_neg n10).trans ?_
          dsimp only
          rw [isr J1 k ti (by omega), Option.bind_some, zOne_t k3]
          refine (if_neg n10).trans ?_
          dsimp only
          rw [r_isSheet, Option.bind_some, zOne_t hv]
          refine (if_neg n10).trans ?_
          dsimp only
          rw [b_inI, Option.bind_some, zOne_f (by rw [i_nI (by omega)]; omega)]
          exact (if_pos rfl).trans ((if_neg n10).trans hq)
      rcases I.2.2.2.2.2 i hi with ⟨p, p2⟩ | ⟨d, m, hd, hm, s1, s2, s3, s4, s5, s6⟩
      · refine zAns.no (v := -11) I (cl _ ?_) (rl _ _ I.2.1.2.1 ?_)
        · unfold F_X6_tells_72
          rw [if_pos (sh_k hi).1, b_missing hi, Option.bind_some, zOne_t p]
          exact if_neg n10
        · unfold F_X7_tells_57
          rw [if_pos hx4, if_pos (show J.2 62 (nI i).toNatClampNeg = 0 by rw [hc4]; exact p2)]
      · have nmi : ¬ J.2 (38 + 2 * i) 0 = -1 := by rw [s1]; exact i_nm1 (by omega)
        have cl2 : ∀ q, (if nI m = nI s then (Option.bind (F_X0_take 14 7 J) fun q5 => (if (nI k / (10 : Int32)) = 1 then (Option.bind (F_X6_itemsTold (38 + 2 * i) 15 (zRem (nI k) (10 : Int32)) (6 : Int32) q5) fun q7 => some (q7.1, q7.2)) else (if (nI k / (10 : Int32)) = 2 then (Option.bind (F_X6_itemsTold (38 + 2 * i) 16 (zRem (nI k) (10 : Int32)) (10 : Int32) q5) fun q9 => some (q9.1, q9.2)) else (if (nI k / (10 : Int32)) = 3 then (Option.bind (F_X6_seatsTold (38 + 2 * i) (zRem (nI k) (10 : Int32)) q5) fun q11 => some (q11.1, q11.2)) else (if nI k = 0 then (Option.bind (F_X0_otherwise 14 (38 + 2 * i) q5) fun q13 => some (q13.1, q13.2)) else (if nI k = 1 then (Option.bind (F_X6_textsTold (38 + 2 * i) q5) fun q15 => some (q15.1, q15.2)) else (if nI k = 2 then (Option.bind (F_X6_milesTold (38 + 2 * i) q5) fun q17 => some (q17.1, q17.2)) else (Option.bind (F_X6_leastMileTold (38 + 2 * i) q5) fun q18 => some (q18.1, q18.2))))))))) else some ((-2 : Int32), J)) = q → F_X6_tells (nI i) (nI k) J = q := by
          intro q hq
          refine cl _ ?_
          unfold F_X6_tells_72
          rw [if_pos (sh_k hi).1, b_missing hi, Option.bind_some, zOne_f nmi]
          refine (if_pos rfl).trans ?_
          dsimp only
          rw [s2, h4]
          exact hq
        have rl2 : ∀ (J1 : zzJ) q, zFrC J J1 → zTieV J1 (zW 7 J) s → (if nI m = nI s then (if nI k = (0 : Int32) then (Option.bind (F_X7_unlike (nI i) J1) fun q24 => some (q24.1, q24.2)) else (if (29 : Int32) < nI k then (Option.bind (F_X7_seatsBy (nI i) (nI k - (30 : Int32)) J1) fun q23 => some (q23.1, q23.2)) else (if nI k = (1 : Int32) then F_X7_tells_146 (nI i) (nI k) (zRem (nI k) (10 : Int32)) (5 : Int32) J1 else (if nI k < (4 : Int32) then F_X7_tells_146 (nI i) (nI k) (zRem (nI k) (10 : Int32)) (0 : Int32) J1 else (if nI k < (20 : Int32) then F_X7_tells_146 (nI i) (nI k) (zRem (nI k) (10 : Int32)) (4 : Int32) J1 else F_X7_tells_146 (nI i) (nI k) (zRem (nI k) (10 : Int32)) (2 : Int32) J1))))) else some ((-2 : Int32), J1)) = q → F_X7_tells (nI i) (nI k) J1 = q := by
          intro J1 q f1 ti hq
          refine rl J1 _ ti ?_
          unfold F_X7_tells_57
          simp only [if_pos hx4, hc4]
          rw [f1.2 62 (by omega), f1.2 64 (by omega), s3, s5, if_neg n10, r_many g ti]
          exact hq
        by_cases hms : m = s
        · subst hms
          have c0 : zCx E n (zW 7 J) J := ⟨zVe.rf, hC⟩
          obtain ⟨Jt, et, vt, ft⟩ := t_now c0
          have ct := c0.fr ft
          have hit : ∀ p, p < m → Jt.2 (39 + 2 * i) p = J.2 (39 + 2 * i) p := fun p hp => by rw [ft.2 _ (by omega)]
          have rit : ∀ J1, zFrC J J1 → ∀ p, p < m → J1.2 65 (40 * i + p) = J.2 (39 + 2 * i) p := fun J1 f1 p hp => by rw [f1.2 65 (by omega)]; exact (s6 p hp).symm
          have rx : ∀ J1, zInv L xs E m t n z J1 → zTieV J1 (zW 7 J) m → zRx E n m (zW 7 J) J1 := fun J1 I1 ti => ⟨ti, (inv_d I1).2.2.2.2.2.2⟩
          have dv : nI k / (10 : Int32) = nI (k / 10) := pk_div (d := 10) (by omega) (by omega) (by omega)
          have ne : ∀ a b : Nat, a ≠ b → a < 100 → b < 100 → ¬ nI a = nI b := fun a b hab ha hb e => hab (i_inj (by omega) (by omega) e)
          rcases hk with hk | ⟨k1, k2, k3⟩
          · have dv0 : nI k / (10 : Int32) = 0 := by rw [dv, show k / 10 = 0 by omega]; rfl
            rcases i4 hk with rfl | rfl | rfl | rfl
            · obtain ⟨Jo, eo, vo, fo⟩ := t_other (it := J.2 (39 + 2 * i)) hi vt g.2.1 h8 ht htn ct.2 hit
              refine zAns.qf I (zUnl E (zW 7 J) t m (J.2 (39 + 2 * i))) ⟨Jo, cl2 _ ?_, ft.tr fo⟩ (fun J1 f1 I1 ti => ?_)
              · rw [if_pos rfl, et, Option.bind_some, dv0, if_neg (by decide), if_neg (by decide), if_neg (by decide)]
                refine (if_pos rfl).trans ?_
                rw [eo]
                rfl
              · obtain ⟨Ju, eu, lu⟩ := m_unlike (it := J.2 (39 + 2 * i)) hi g ht htn (rx J1 I1 ti) (rit J1 f1)
                refine ⟨Ju, rl2 J1 _ f1 ti ?_, lu.fr, lu.tie ti⟩
                rw [if_pos rfl]
                refine (if_pos rfl).trans ?_
                rw [eu]
                rfl
            · obtain ⟨Jo, eo, fo⟩ := t_texts (it := J.2 (39 + 2 * i)) hi I.2.2.1.1 vt g.2.1 h8 (by rw [ft.2 1 (by omega)]; exact I.2.2.1.2.1) ct.2 hit
              refine zAns.qf I (zB (zCand E (zW 7 J) m 0 3 (fun v => v) (J.2 (39 + 2 * i))) n) ⟨Jo, cl2 _ ?_, ft.tr fo⟩ (fun J1 f1 I1 ti => ?_)
              · rw [if_pos rfl, et, Option.bind_some, dv0, if_neg (by decide), if_neg (by decide), if_neg (by decide), if_neg (by decide)]
                refine (if_pos rfl).trans ?_
                rw [eo]
                rfl
              · obtain ⟨Ju, eu, tu, fu⟩ := m_223 (it := J.2 (39 + 2 * i)) (w := zW 7 J) (s := m) (r := 0) (i := 3) (c := 46) (k := 4) (m := n) (T := fun v => v) (sort := 5) (l2 := 1) (p := nI 1) (J0 := J1) hi (by have := I.2.2.1.1; omega) (fun _ _ => rfl) (fun J' u v t' => by have := tie_wf (k := 4) (f := 3) (v := v) t' (by omega); rw [zWr_wr] at this; exact this) (by omega) ti.2.2.2.2.1 (fun v _ => good_f g (by omega)) (fun v hv => ⟨zWr_s, hv⟩) (rx J1 I1 ti) (rit J1 f1) (Or.inl (by decide))
                rw [if_neg (by decide), if_neg (by decide)] at eu
                refine ⟨Ju, rl2 J1 _ f1 ti ?_, fu, tu⟩
                rw [if_pos rfl]
                refine (if_neg (by decide)).trans ((if_neg (by decide)).trans ((if_pos rfl).trans ?_))
                have e146 : F_X7_tells_146 (nI i) (nI 1) (zRem (nI 1) 10) 5 J1 = F_X7_tells_223 4096 (nI i) (nI 1) (nI 1) 5 (J1.2 46 4) 0 0 (-1) (J1.2 46 3 - 1) J1 := by
                  unfold F_X7_tells_146 F_X7_tells_169 F_X7_tells_208
                  rw [if_pos rfl, if_pos rfl, rem10 (by omega)]
                rw [e146, I1.2.2.1.2.2.1, ti.2.2.2.2.1]
                exact eu
            · obtain ⟨Jo, eo, fo⟩ := t_miles (it := J.2 (39 + 2 * i)) hi vt g.2.1 h8 ht htn ct.2 hit
              refine zAns.qf I (zCn (zCand E (zW 7 J) m 0 1 (fun _ => t) (J.2 (39 + 2 * i))) 100) ⟨Jo, cl2 _ ?_, ft.tr fo⟩ (fun J1 f1 I1 ti => ?_)
              · rw [if_pos rfl, et, Option.bind_some, dv0, if_neg (by decide), if_neg (by decide), if_neg (by decide), if_neg (by decide), if_neg (by decide)]
                refine (if_pos rfl).trans ?_
                rw [eo]
                rfl
              · obtain ⟨Ju, eu, tu, fu⟩ := m_223 (it := J.2 (39 + 2 * i)) (w := zW 7 J) (s := m) (r := 0) (i := 1) (c := 46) (k := 7) (m := 100) (T := fun _ => t) (sort := 0) (l2 := 2) (p := nI 2) (J0 := J1) hi (by omega) (fun _ _ => rfl) (fun J' u v t' => by have := tie_wf (k := 7) (f := 1) (v := v) t' (by omega); rw [zWr_wr] at this; exact this) (by omega) ti.2.2.1 (fun v _ => good_f g (by omega)) (fun v hv => ⟨(zWr_o (by omega)).trans ht, htn⟩) (rx J1 I1 ti) (rit J1 f1) (Or.inr (Or.inl rfl))
                rw [if_pos rfl] at eu
                refine ⟨Ju, rl2 J1 _ f1 ti ?_, fu, tu⟩
                rw [if_pos rfl]
                refine (if_neg (by decide)).trans ((if_neg (by decide)).trans ((if_neg (by decide)).trans ((if_pos (by decide)).trans ?_)))
                have e146 : F_X7_tells_146 (nI i) (nI 2) (zRem (nI 2) 10) 0 J1 = F_X7_tells_223 4096 (nI i) (nI 2) (nI 2) 0 (J1.2 46 7) 0 0 (-1) (nI 100 - 1) J1 := by
                  unfold F_X7_tells_146 F_X7_tells_169 F_X7_tells_208
                  rw [if_neg (by decide), r_told0, Option.bind_some, if_neg (by decide), if_pos rfl, rem10 (by omega), show (99 : Int32) = nI 100 - 1 by decide]
                rw [e146, ti.2.2.1]
                exact eu
            · obtain ⟨Jo, eo, fo⟩ := t_least (it := J.2 (39 + 2 * i)) hi vt g.2.1 h8 ht htn ct.2 hit
              refine zAns.qf I (zFs (zCand E (zW 7 J) m 0 1 (fun _ => t) (J.2 (39 + 2 * i))) 0 100) ⟨Jo, cl2 _ ?_, ft.tr fo⟩ (fun J1 f1 I1 ti => ?_)
              · rw [if_pos rfl, et, Option.bind_some, dv0, if_neg (by decide), if_neg (by decide), if_neg (by decide), if_neg (by decide), if_neg (by decide), if_neg (by decide), eo]
                rfl
              · obtain ⟨Ju, eu, tu, fu⟩ := m_223 (it := J.2 (39 + 2 * i)) (w := zW 7 J) (s := m) (r := 0) (i := 1) (c := 46) (k := 7) (m := 100) (T := fun _ => t) (sort := 0) (l2 := 3) (p := nI 3) (J0 := J1) hi (by omega) (fun _ _ => rfl) (fun J' u v t' => by have := tie_wf (k := 7) (f := 1) (v := v) t' (by omega); rw [zWr_wr] at this; exact this) (by omega) ti.2.2.1 (fun v _ => good_f g (by omega)) (fun v hv => ⟨(zWr_o (by omega)).trans ht, htn⟩) (rx J1 I1 ti) (rit J1 f1) (Or.inr (Or.inr rfl))
                rw [if_neg (by decide), if_pos rfl] at eu
                refine ⟨Ju, rl2 J1 _ f1 ti ?_, fu, tu⟩
                rw [if_pos rfl]
                refine (if_neg (by decide)).trans ((if_neg (by decide)).trans ((if_neg (by decide)).trans ((if_pos (by decide)).trans ?_)))
                have e146 : F_X7_tells_146 (nI i) (nI 3) (zRem (nI 3) 10) 0 J1 = F_X7_tells_223 4096 (nI i) (nI 3) (nI 3) 0 (J1.2 46 7) 0 0 (-1) (nI 100 - 1) J1 := by
                  unfold F_X7_tells_146 F_X7_tells_169 F_X7_tells_208
                  rw [if_neg (by decide), r_told0, Option.bind_some, if_neg (by decide), if_pos rfl, rem10 (by omega), show (99 : Int32) = nI 100 - 1 by decide]
                rw [e146, ti.2.2.1]
                exact eu
          · have q0 : ¬ nI k = (0 : Int32) := fun e => ne k 0 (by omega) (by omega) (by omega) e
            have q1 : ¬ nI k = (1 : Int32) := fun e => ne k 1 (by omega) (by omega) (by omega) e
            have q2 : ¬ nI k = (2 : Int32) := fun e => ne k 2 (by omega) (by omega) (by omega) e
            have q3 : ¬ nI k = (3 : Int32) := fun e => ne k 3 (by omega) (by omega) (by omega) e
            generalize hp : k % 10 = p at k3
            have rk : zRem (nI k) 10 = nI p := by rw [rem10 (by omega), hp]
            have hp8 : zzIx (nI p) 8 := i_ix (by omega) (by omega)
            have hpc : (nI p).toNatClampNeg = p := i_cm (by omega)
            by_cases hk20 : k < 20
            · have dv1 : nI k / (10 : Int32) = 1 := by rw [dv, show k / 10 = 1 by omega]; rfl
              obtain ⟨Jo, eo, fo⟩ := t_items (it := J.2 (39 + 2 * i)) (r := 1) (c := 15) (i := p) (m := 6) (T := fun _ => t) hi (Or.inl rfl) rfl (by omega) (by omega) vt g.2.1 h8 (fun v _ => ⟨ht, htn⟩) ct.2 hit
              refine zAns.qf I (zB (zCand E (zW 7 J) m 1 p (fun _ => t) (J.2 (39 + 2 * i))) 6) ⟨Jo, cl2 _ ?_, ft.tr fo⟩ (fun J1 f1 I1 ti => ?_)
              · rw [if_pos rfl, et, Option.bind_some, dv1, if_pos rfl, rk]
                show Option.bind (F_X6_itemsTold (38 + 2 * i) 15 (nI p) (nI 6) Jt) _ = _
                rw [eo]
                rfl
              · obtain ⟨Ju, eu, tu, fu⟩ := m_223 (it := J.2 (39 + 2 * i)) (w := zW 7 J) (s := m) (r := 1) (i := p) (c := 50) (k := p) (m := 6) (T := fun _ => t) (sort := 4) (l2 := nI k) (p := nI p) (J0 := J1) hi (by omega) (fun J' v => by unfold F_X7_lays; rw [if_neg (by decide), if_neg (by decide), if_neg (by decide), if_neg (by decide), if_pos rfl, if_pos hp8, hpc]) (fun J' u v t' => by have := tie_wr (r := 1) (i := p) (v := v) t' (by omega) (by omega); rw [zWr_wr] at this; exact this) (by omega) (ti.1 p k3).1 (fun v hv => good_1 g hv) (fun v hv => ⟨(zWr_o (by omega)).trans ht, htn⟩) (rx J1 I1 ti) (rit J1 f1) (Or.inl (by decide))
                rw [if_neg q2, if_neg q3] at eu
                refine ⟨Ju, rl2 J1 _ f1 ti ?_, fu, tu⟩
                rw [if_pos rfl, if_neg q0, if_neg (by rw [i_lt, i_nI (by omega)]; show ¬ (29 : Int) < k; omega), if_neg q1, if_neg (by rw [i_lt, i_nI (by omega)]; show ¬ (k : Int) < 4; omega), if_pos (by rw [i_lt, i_nI (by omega)]; show (k : Int) < 20; omega), rk]
                unfold F_X7_tells_146 F_X7_tells_169 F_X7_tells_208
                rw [if_neg (by decide), (r_told24 g ti k3).2, Option.bind_some]
                dsimp only
                rw [(ti.1 p k3).1, if_neg (by decide), if_neg (by decide), if_pos rfl, show (5 : Int32) = nI 6 - 1 by decide]
                exact eu
            · by_cases hk30 : k < 30
              · have dv2 : nI k / (10 : Int32) = 2 := by rw [dv, show k / 10 = 2 by omega]; rfl
                obtain ⟨Jo, eo, fo⟩ := t_items (it := J.2 (39 + 2 * i)) (r := 2) (c := 16) (i := p) (m := 10) (T := fun _ => t) hi (Or.inr rfl) rfl (by omega) (by omega) vt g.2.1 h8 (fun v _ => ⟨ht, htn⟩) ct.2 hit
                refine zAns.qf I (zB (zCand E (zW 7 J) m 2 p (fun _ => t) (J.2 (39 + 2 * i))) 10) ⟨Jo, cl2 _ ?_, ft.tr fo⟩ (fun J1 f1 I1 ti => ?_)
                · rw [if_pos rfl, et, Option.bind_some, dv2, if_neg (by decide), if_pos rfl, rk]
                  show Option.bind (F_X6_itemsTold (38 + 2 * i) 16 (nI p) (nI 10) Jt) _ = _
                  rw [eo]
                  rfl
                · obtain ⟨Ju, eu, tu, fu⟩ := m_223 (it := J.2 (39 + 2 * i)) (w := zW 7 J) (s := m) (r := 2) (i := p) (c := 51) (k := p) (m := 10) (T := fun _ => t) (sort := 2) (l2 := nI k) (p := nI p) (J0 := J1) hi (by omega) (fun J' v => by unfold F_X7_lays; rw [if_neg (by decide), if_neg (by decide), if_pos rfl, if_pos hp8, hpc]) (fun J' u v t' => by have := tie_wr (r := 2) (i := p) (v := v) t' (by omega) (by omega); rw [zWr_wr] at this; exact this) (by omega) (ti.1 p k3).2.1 (fun v hv => good_2 g hv) (fun v hv => ⟨(zWr_o (by omega)).trans ht, htn⟩) (rx J1 I1 ti) (rit J1 f1) (Or.inl (by decide))
                  rw [if_neg q2, if_neg q3] at eu
                  refine ⟨Ju, rl2 J1 _ f1 ti ?_, fu, tu⟩
                  rw [if_pos rfl, if_neg q0, if_neg (by rw [i_lt, i_nI (by omega)]; show ¬ (29 : Int) < k; omega), if_neg q1, if_neg (by rw [i_lt, i_nI (by omega)]; show ¬ (k : Int) < 4; omega), if_neg (by rw [i_lt, i_nI (by omega)]; show ¬ (k : Int) < 20; omega), rk]
                  unfold F_X7_tells_146 F_X7_tells_169 F_X7_tells_208
                  rw [if_neg (by decide), (r_told24 g ti k3).1, Option.bind_some]
                  dsimp only
                  rw [(ti.1 p k3).2.1, if_neg (by decide), if_neg (by decide), if_neg (by decide), show (9 : Int32) = nI 10 - 1 by decide]
                  exact eu
              · have dv3 : nI k / (10 : Int32) = 3 := by rw [dv, show k / 10 = 3 by omega]; rfl
                obtain ⟨Jo, eo, fo⟩ := t_seatsT (it := J.2 (39 + 2 * i)) hi k3 g ct vt ht htn hit
                refine zAns.qf I (zB (zCseat E (zW 7 J) t m p (J.2 (39 + 2 * i))) 24) ⟨Jo, cl2 _ ?_, ft.tr fo⟩ (fun J1 f1 I1 ti => ?_)
                · rw [if_pos rfl, et, Option.bind_some, dv3, if_neg (by decide), if_neg (by decide), if_pos rfl, rk, eo]
                  rfl
                · obtain ⟨Ju, eu, tu, fu⟩ := m_seatsBy (it := J.2 (39 + 2 * i)) hi k3 g ht htn (rx J1 I1 ti) (rit J1 f1)
                  refine ⟨Ju, rl2 J1 _ f1 ti ?_, fu, tu⟩
                  rw [if_pos rfl, if_neg q0, if_pos (by rw [i_lt, i_nI (by omega)]; show (29 : Int) < k; omega), show nI k - (30 : Int32) = nI p from by rw [show p = k - 30 by omega]; exact pk_sub (b := 30) (by omega), eu]
                  rfl
        · have nms : ¬ nI m = nI s := fun e => hms (i_inj (by omega) (by omega) e)
          exact zAns.no (v := -2) I (cl2 _ (by rw [if_neg nms])) (rl2 J _ zFrC.rf I.2.1.2.1 (by rw [if_neg nms]))
    · refine zAns.no (v := -2) I ?_ ?_
      · have no : ∀ J', F_X6_tells_52 y (some (38 + 2 * i)) 0 J' = some (-2, J') := fun J' => rfl
        have n20 : F_X6_tells_20 y (some (38 + 2 * i)) 0 J = some (-2, J) := by
          unfold F_X6_tells_20
          by_cases h1 : y.toInt < 10
          · rw [if_pos (by rw [i_lt]; omega), no]
          · rw [if_neg (by rw [i_lt]; omega)]
            by_cases h2 : y.toInt < 40
            · rw [if_pos (by rw [i_lt]; omega)]
              obtain ⟨k, hk, rfl⟩ := i_upto (x := y) (m := 39) (by omega) (by omega)
              rw [i_nI (by omega)] at h1
              rw [hasr k (by omega), Option.bind_some, zOne_f (fun q => hy ⟨k, rfl, Or.inr ⟨by omega, hk, q⟩⟩)]
              exact (if_pos rfl).trans (no J)
            · rw [if_neg (by rw [i_lt]; omega), no]
        unfold F_X6_tells F_X6_tells_19
        rw [b_sheet hi, Option.bind_some]
        dsimp only
        rw [n20]
        by_cases h1 : y.toInt < 0
        · rw [if_pos (by rw [i_lt]; omega)]
        · rw [if_neg (by rw [i_lt]; omega)]
          by_cases h2 : 3 < y.toInt
          · rw [if_pos (by rw [i_lt]; omega)]
          · obtain ⟨k, hk, rfl⟩ := i_upto (x := y) (m := 3) (by omega) (by omega)
            exact absurd ⟨k, rfl, Or.inl (by omega)⟩ hy
      · have no : F_X7_tells_30 (nI i) y 0 J = some (-2, J) := by
          unfold F_X7_tells_30
          rw [r_isSheet, Option.bind_some, zOne_t hv]
          refine (if_neg n10).trans ?_
          dsimp only
          rw [b_inI, Option.bind_some, zOne_f (by
            intro q
            obtain ⟨k, hk, rfl⟩ := i_upto (x := y) (m := 3) (by omega) (by omega)
            exact hy ⟨k, rfl, Or.inl (by omega)⟩)]
          rfl
        unfold F_X7_tells F_X7_tells_29
        by_cases h2 : 10 ≤ y.toInt ∧ y.toInt ≤ 39
        · rw [b_inI, Option.bind_some, zOne_t (by exact h2)]
          refine (if_neg n10).trans ?_
          obtain ⟨k, hk, rfl⟩ := i_upto (x := y) (m := 39) (by omega) (by omega)
          rw [i_nI (by omega)] at h2
          dsimp only
          rw [isr J k I.2.1.2.1 (by omega), Option.bind_some, zOne_f (fun q => hy ⟨k, rfl, Or.inr ⟨by omega, hk, q⟩⟩)]
          exact (if_pos rfl).trans no
        · rw [b_inI, Option.bind_some, zOne_f (by exact h2)]
          exact (if_pos rfl).trans no
  · refine zAns.no (v := -2) I ?_ ?_
    · have n53 : ∀ l t0 J', F_X6_tells_53 y none l t0 J' = some (-2, J') := fun _ _ _ => rfl
      have n20 : ∀ t0, F_X6_tells_20 y none t0 J = some (-2, J) := by
        intro t0
        unfold F_X6_tells_20 F_X6_tells_52
        rw [n53]
        by_cases h1 : y.toInt < 10
        · rw [if_pos (by rw [i_lt]; omega)]
        · rw [if_neg (by rw [i_lt]; omega)]
          by_cases h2 : y.toInt < 40
          · rw [if_pos (by rw [i_lt]; omega)]
            obtain ⟨k, hk, rfl⟩ := i_upto (x := y) (m := 39) (by omega) (by omega)
            rw [hasr k (by omega), Option.bind_some, n53, n53]
            split <;> rfl
          · rw [if_neg (by rw [i_lt]; omega)]
      unfold F_X6_tells F_X6_tells_19
      rw [b_sheetAt, if_neg hv, Option.bind_some]
      dsimp only
      rw [n20, n20]
      split
      · rfl
      · split <;> rfl
    · have no : ∀ t0 J', F_X7_tells_30 x y t0 J' = some (-2, J') := by
        intro t0 J'
        unfold F_X7_tells_30
        rw [r_isSheet, Option.bind_some, zOne_f hv]
        rfl
      unfold F_X7_tells F_X7_tells_29
      rw [b_inI, Option.bind_some]
      dsimp only
      by_cases h2 : 10 ≤ y.toInt ∧ y.toInt ≤ 39
      · rw [zOne_t (by exact h2), if_neg n10]
        obtain ⟨k, hk, rfl⟩ := i_upto (x := y) (m := 39) (by omega) (by omega)
        rw [isr J k I.2.1.2.1 (by omega), Option.bind_some, no, no]
        split <;> rfl
      · rw [zOne_f (by exact h2), if_pos rfl, no]
end TC
