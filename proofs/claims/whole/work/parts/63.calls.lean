/-! the calls: all, count, force, taken -/
theorem zAns.q {α : Type} {L : Nat} {xs : Nat → Int32} {F R : zzJ → Option (α × zzJ)} {J : zzJ} {E : zEv2} {s t n z : Nat} (I : zInv L xs E s t n z J) (v : α) (h1 : ∃ J1, F J = some (v, J1) ∧ zFrC J J1) (h2 : ∀ J1, zInv L xs E s t n z J1 → zTieV J1 (zW 7 J) s → ∃ J2, R J1 = some (v, J2) ∧ zFrR J1 J2 ∧ zTieV J2 (zW 7 J) s) : zAns L xs F R J := by
  refine zAns.qry I v h1 (fun J1 I1 hb => ?_)
  have v1 : zVe (zW 7 J) (zW 7 J1) := veW (fun b x y => hb b (by omega) (by omega)) zVe.rf
  have h8 := I.2.1.1.1
  obtain ⟨J2, a, b, c⟩ := h2 J1 I1 (zVe_tie v1.sy h8 I1.2.1.2.1)
  exact ⟨J2, a, b, zVe_tie v1 h8 c⟩
section CB
variable {L : Nat} {xs : Nat → Int32} {E : zEv2} {s t n z : Nat} {J : zzJ} {w : zVw} {x y v : Int32}
theorem inv_d (I : zInv L xs E s t n z J) : zGoodV (zW 7 J) s ∧ s ≤ 8 ∧ (zW 7 J) 0 3 = nI t ∧ t < n ∧ J.2 7 4 = nI s ∧ zTxC E n (J.2 2) (J.2 3) ∧ zTxR E n (J.2 47) (J.2 48) := ⟨I.2.1.1, I.2.1.1.1, I.2.1.2.2.1, I.2.1.2.2.2, I.2.1.1.2.1, I.2.2.1.2.2.2.1.at, I.2.2.1.2.2.2.2.at⟩
theorem r_many (g : zGoodV w s) (ti : zTieV J w s) : J.2 46 14 = nI s := ti.2.2.2.2.2.trans g.2.1
theorem i_lts {i : Nat} (hi : i < 4096) (hs : s < 4096) : nI i < nI s ↔ i < s := by rw [i_lt, i_nI (by omega), i_nI (by omega)]; omega
theorem r_alone (g : zGoodV w s) (ti : zTieV J w s) : F_X7_all_41 4096 0 0 J = some (zAcc (fun x => zOne (¬ zSeat w x = -1 ∧ zBes w x = 0)) 0 0 s, J) := by
  have h8 := g.1
  have hm := r_many g ti
  refine zLoop (G := fun f (a : Int32 × Nat) => F_X7_all_41 f a.1 (nI a.2) J) (P := fun i a => a.2 = i ∧ zAcc (fun x => zOne (¬ zSeat w x = -1 ∧ zBes w x = 0)) a.1 i (s - i) = zAcc (fun x => zOne (¬ zSeat w x = -1 ∧ zBes w x = 0)) 0 0 s) (Q := fun r => r = some (zAcc (fun x => zOne (¬ zSeat w x = -1 ∧ zBes w x = 0)) 0 0 s, J)) (s := s) ?_ s 0 (0, 0) (by omega) ⟨rfl, rfl⟩ 4096 (by omega)
  rintro i ⟨l, i2⟩ hi ⟨rfl, hT⟩
  dsimp only at hi hT ⊢
  by_cases h : i2 < s
  · right
    refine ⟨h, (l + zOne (¬ zSeat w (nI i2) = -1 ∧ zBes w (nI i2) = 0), i2 + 1), ⟨rfl, ?_⟩, fun f => ?_⟩
    · rw [← hT, show s - i2 = (s - (i2 + 1)) + 1 by omega]
      rfl
    · rw [F_X7_all_41, hm, if_pos ((i_lts (by omega) (by omega)).2 h), if_pos (i_ix (by omega) (by omega)), i_cm (by omega), (ti.1 i2 h).2.2.2, ← zSeat_nI g h, r_beside g ti h, Option.bind_some]
      dsimp only
      rw [← nI_succ]
      by_cases hs : zSeat w (nI i2) = -1
      · rw [if_pos hs, zOne_f (fun q => q.1 hs)]
      · rw [if_neg hs]
        by_cases hb : zBes w (nI i2) = 0
        · rw [if_pos hb, zOne_t ⟨hs, hb⟩]
        · rw [if_neg hb, zOne_f (fun q => hb q.2)]
  · left
    refine ⟨_, rfl, fun f => ?_⟩
    rw [F_X7_all_41, hm, if_neg (fun q => h ((i_lts (by omega) (by omega)).1 q)), ← hT, show s - i2 = 0 by omega]
    rfl
theorem c_all (I : zInv L xs E s t n z J) : zAns L xs (F_X6_all x) (F_X7_all x) J := by
  obtain ⟨g, h8, ht, htn, h4, hC, _⟩ := inv_d I
  by_cases hx : 0 ≤ x.toInt ∧ x.toInt ≤ 2
  · obtain ⟨k, hk, rfl⟩ := i_upto (x := x) (m := 2) hx (by omega)
    rcases (show k = 0 ∨ k = 1 ∨ k = 2 by omega) with rfl | rfl | rfl
    · obtain ⟨J2, e2, s2⟩ := cw_din (s := s) zC7 htn (by omega) hC ht h4
      refine zAns.q I (zAcc (zNoise E (zW 7 J) t) 0 0 s) ⟨J2, ?_, s2.fr (Or.inl rfl)⟩ (fun J1 I1 ti => ?_)
      · refine (if_pos rfl).trans ?_
        rw [e2]
        rfl
      · obtain ⟨J3, e3, l3⟩ := r_din g ti (inv_d I1).2.2.2.2.2.2 ht htn
        refine ⟨J3, ?_, l3.fr, l3.tie ti⟩
        unfold F_X7_all
        rw [b_inI, Option.bind_some, zOne_t (by decide)]
        refine (if_neg (by first | exact n10 | decide)).trans ((if_pos (by decide)).trans ((if_pos rfl).trans ?_))
        rw [e3]
        rfl
    · obtain ⟨J2, e2, s2⟩ := cw_joy (s := s) zC7 htn (by omega) hC ht h4
      refine zAns.q I (zAcc (zGlad E (zW 7 J) t) 0 0 s) ⟨J2, ?_, s2.fr (Or.inl rfl)⟩ (fun J1 I1 ti => ?_)
      · refine (if_neg (by first | exact n10 | decide)).trans ((if_pos rfl).trans ?_)
        rw [e2]
        rfl
      · obtain ⟨J3, e3, l3⟩ := r_joy g ti (inv_d I1).2.2.2.2.2.2 ht htn
        refine ⟨J3, ?_, l3.fr, l3.tie ti⟩
        unfold F_X7_all
        rw [b_inI, Option.bind_some, zOne_t (by decide)]
        refine (if_neg (by first | exact n10 | decide)).trans ((if_pos (by decide)).trans ((if_neg (by first | exact n10 | decide)).trans ?_))
        rw [e3]
        rfl
    · refine zAns.q I (zAcc (fun x => zOne (¬ zSeat (zW 7 J) x = -1 ∧ zBes (zW 7 J) x = 0)) 0 0 s) ⟨J, ?_, zFrC.rf⟩ (fun J1 I1 ti => ⟨J1, ?_, zFrR.rf, ti⟩)
      · refine (if_neg (by first | exact n10 | decide)).trans ((if_neg (by first | exact n10 | decide)).trans ((if_pos rfl).trans ?_))
        rw [cw_alone zC7 (by omega) h4]
        rfl
      · unfold F_X7_all
        rw [b_inI, Option.bind_some, zOne_t (by decide)]
        exact (if_neg (by first | exact n10 | decide)).trans ((if_neg (by first | exact n10 | decide)).trans (r_alone g ti))
  · have ne : ∀ c : Int32, 0 ≤ c.toInt ∧ c.toInt ≤ 2 → ¬ x = c := fun c hc e => hx (by rw [e]; exact hc)
    refine zAns.q I (-100000) ⟨J, ?_, zFrC.rf⟩ (fun J1 I1 ti => ⟨J1, ?_, zFrR.rf, ti⟩)
    · unfold F_X6_all
      rw [if_neg (ne 0 (by decide)), if_neg (ne 1 (by decide)), if_neg (ne 2 (by decide))]
    · unfold F_X7_all
      rw [b_inI, Option.bind_some, zOne_f (by exact hx)]
      exact if_pos rfl
theorem r_count (g : zGoodV w s) (ti : zTieV J w s) (c : Int32) : F_X7_count_53 4096 c 0 0 J = some (if c = 0 then nI s else zAcc (fun x => zOne (¬ zSeat w x = -1)) 0 0 s, J) := by
  have h8 := g.1
  have hm := r_many g ti
  generalize hT0 : (if c = 0 then nI s else zAcc (fun x => zOne (¬ zSeat w x = -1)) 0 0 s) = T
  refine zLoop (G := fun f (a : Int32 × Nat) => F_X7_count_53 f c a.1 (nI a.2) J) (P := fun i a => a.2 = i ∧ (if c = 0 then a.1 = nI i else zAcc (fun x => zOne (¬ zSeat w x = -1)) a.1 i (s - i) = T)) (Q := fun r => r = some (T, J)) (s := s) ?_ s 0 (0, 0) (by omega) ⟨rfl, ?_⟩ 4096 (by omega)
  · rintro i ⟨l, i2⟩ hi ⟨rfl, hT⟩
    dsimp only at hi hT ⊢
    by_cases h : i2 < s
    · right
      by_cases hc : c = 0
      · rw [if_pos hc] at hT
        refine ⟨h, (l + 1, i2 + 1), ⟨rfl, ?_⟩, fun f => ?_⟩
        · rw [if_pos hc, hT]
          exact (nI_succ i2).symm
        · rw [F_X7_count_53, hm, if_pos ((i_lts (by omega) (by omega)).2 h), if_pos hc, ← nI_succ]
      · rw [if_neg hc] at hT
        refine ⟨h, (l + zOne (¬ zSeat w (nI i2) = -1), i2 + 1), ⟨rfl, ?_⟩, fun f => ?_⟩
        · rw [if_neg hc, ← hT, show s - i2 = (s - (i2 + 1)) + 1 by omega]
          rfl
        · rw [F_X7_count_53, hm, if_pos ((i_lts (by omega) (by omega)).2 h), if_neg hc, if_pos (i_ix (by omega) (by omega)), i_cm (by omega), (ti.1 i2 h).2.2.2, ← zSeat_nI g h, ← nI_succ]
          by_cases hs : zSeat w (nI i2) = -1
          · rw [if_pos hs, zOne_f (fun q => q hs)]
          · rw [if_neg hs, zOne_t hs]
    · left
      refine ⟨_, rfl, fun f => ?_⟩
      rw [F_X7_count_53, hm, if_neg (fun q => h ((i_lts (by omega) (by omega)).1 q))]
      congr 2
      by_cases hc : c = 0
      · rw [if_pos hc] at hT hT0
        rw [hT, ← hT0, show i2 = s by omega]
      · rw [if_neg hc] at hT
        rw [← hT, show s - i2 = 0 by omega]
        rfl
  · by_cases hc : c = 0
    · rw [if_pos hc]; rfl
    · rw [if_neg hc] at hT0 ⊢
      exact hT0
theorem c_count (I : zInv L xs E s t n z J) : zAns L xs (F_X6_count x) (F_X7_count x) J := by
  obtain ⟨g, h8, ht, htn, h4, hC, _⟩ := inv_d I
  by_cases hx : 0 ≤ x.toInt ∧ x.toInt ≤ 4
  · obtain ⟨k, hk, rfl⟩ := i_upto (x := x) (m := 4) hx (by omega)
    rcases (show k = 0 ∨ k = 1 ∨ k = 2 ∨ k = 3 ∨ k = 4 by omega) with rfl | rfl | rfl | rfl | rfl
    · refine zAns.q I (nI s) ⟨J, (if_pos rfl).trans (by rw [h4]), zFrC.rf⟩ (fun J1 I1 ti => ⟨J1, ?_, zFrR.rf, ti⟩)
      unfold F_X7_count
      rw [b_inI, Option.bind_some, zOne_t (by decide)]
      exact (if_neg (by first | exact n10 | decide)).trans ((if_neg (by first | exact n10 | decide)).trans ((r_count g ti 0).trans (by rw [if_pos rfl])))
    · refine zAns.q I (zAcc (fun x => zOne (¬ zSeat (zW 7 J) x = -1)) 0 0 s) ⟨J, ?_, zFrC.rf⟩ (fun J1 I1 ti => ⟨J1, ?_, zFrR.rf, ti⟩)
      · refine (if_neg (by first | exact n10 | decide)).trans ((if_pos rfl).trans ?_)
        rw [cw_sitting zC7 (by omega) h4]
        rfl
      · unfold F_X7_count
        rw [b_inI, Option.bind_some, zOne_t (by decide)]
        exact (if_neg (by first | exact n10 | decide)).trans ((if_neg (by first | exact n10 | decide)).trans ((r_count g ti 1).trans (by rw [if_neg (by first | exact n10 | decide)])))
    · refine zAns.q I (nI n) ⟨J, (if_neg (by first | exact n10 | decide)).trans ((if_neg (by first | exact n10 | decide)).trans ((if_pos rfl).trans (by rw [I.2.2.1.2.1]))), zFrC.rf⟩ (fun J1 I1 ti => ⟨J1, ?_, zFrR.rf, ti⟩)
      unfold F_X7_count
      rw [b_inI, Option.bind_some, zOne_t (by decide)]
      refine (if_neg (by first | exact n10 | decide)).trans ((if_pos (by decide)).trans ((if_pos rfl).trans ?_))
      dsimp only
      rw [I1.2.2.1.2.2.1]
    · refine zAns.q I (nI z) ⟨J, (if_neg (by first | exact n10 | decide)).trans ((if_neg (by first | exact n10 | decide)).trans ((if_neg (by first | exact n10 | decide)).trans ((if_pos rfl).trans (by rw [I.2.2.2.1.2.1])))), zFrC.rf⟩ (fun J1 I1 ti => ⟨J1, ?_, zFrR.rf, ti⟩)
      unfold F_X7_count
      rw [b_inI, Option.bind_some, zOne_t (by decide)]
      refine (if_neg (by first | exact n10 | decide)).trans ((if_pos (by decide)).trans ((if_neg (by first | exact n10 | decide)).trans ((if_pos rfl).trans ?_)))
      dsimp only
      rw [I1.2.2.2.1.2.2.1]
    · refine zAns.q I (nI t) ⟨J, (if_neg (by first | exact n10 | decide)).trans ((if_neg (by first | exact n10 | decide)).trans ((if_neg (by first | exact n10 | decide)).trans ((if_neg (by first | exact n10 | decide)).trans ((if_pos rfl).trans (by rw [I.2.1.2.2.1]))))), zFrC.rf⟩ (fun J1 I1 ti => ⟨J1, ?_, zFrR.rf, ti⟩)
      unfold F_X7_count
      rw [b_inI, Option.bind_some, zOne_t (by decide)]
      refine (if_neg (by first | exact n10 | decide)).trans ((if_pos (by decide)).trans ((if_neg (by first | exact n10 | decide)).trans ((if_neg (by first | exact n10 | decide)).trans ?_)))
      dsimp only
      rw [ti.2.2.2.2.1, ht]
  · have ne : ∀ c : Int32, 0 ≤ c.toInt ∧ c.toInt ≤ 4 → ¬ x = c := fun c hc e => hx (by rw [e]; exact hc)
    refine zAns.q I (-2) ⟨J, ?_, zFrC.rf⟩ (fun J1 I1 ti => ⟨J1, ?_, zFrR.rf, ti⟩)
    · unfold F_X6_count
      rw [if_neg (ne 0 (by decide)), if_neg (ne 1 (by decide)), if_neg (ne 2 (by decide)), if_neg (ne 3 (by decide)), if_neg (ne 4 (by decide))]
    · unfold F_X7_count
      rw [b_inI, Option.bind_some, zOne_f (by exact hx)]
      exact if_pos rfl
/-- the kinds under each other -/
def zUnd (a k : Nat) : Bool := (([[0], [1, 0], [2, 0], [3, 1, 0], [4, 2, 0], [5, 0]] : List (List Nat)).getD a []).contains k
theorem b_under {J : zzJ} : ∀ a, a < 6 → ∀ k, k < 6 → F_X6_isUnder (nI a) (nI k) J = some (if zUnd a k then 1 else 0, J) := by
  intro a ha k hk
  rcases (show a = 0 ∨ a = 1 ∨ a = 2 ∨ a = 3 ∨ a = 4 ∨ a = 5 by omega) with rfl | rfl | rfl | rfl | rfl | rfl <;> rcases (show k = 0 ∨ k = 1 ∨ k = 2 ∨ k = 3 ∨ k = 4 ∨ k = 5 by omega) with rfl | rfl | rfl | rfl | rfl | rfl <;> rfl
theorem r_taken33 {i : Nat} (hi : i < 8) : ∀ a, a < 6 → ∀ k, k < 6 → F_X7_taken_33 4096 (nI i) (nI k) (nI a) J = some (if zUnd a k then J.2 51 i else -13, J) := by
  intro a ha k hk
  have hx : zzIx (nI i) 8 := i_ix hi (by omega)
  have hc : (nI i).toNatClampNeg = i := i_cm (by omega)
  have p : ∀ q : Int32, F_X7_taken_51 (nI i) q q J = some (J.2 51 i, J) := fun q => by unfold F_X7_taken_51; rw [if_pos rfl, if_pos hx, hc]
  have m : ∀ q, q < 6 → F_X7_taken_51 (nI i) (nI q) (-1) J = some (-13, J) := fun q hq => by unfold F_X7_taken_51; rw [if_neg (fun e => i_nm1 (by omega) e.symm)]
  rcases (show a = 0 ∨ a = 1 ∨ a = 2 ∨ a = 3 ∨ a = 4 ∨ a = 5 by omega) with rfl | rfl | rfl | rfl | rfl | rfl <;> rcases (show k = 0 ∨ k = 1 ∨ k = 2 ∨ k = 3 ∨ k = 4 ∨ k = 5 by omega) with rfl | rfl | rfl | rfl | rfl | rfl <;> first | exact m _ (by omega) | exact p (nI 0) | exact p (nI 1) | exact p (nI 2) | exact p (nI 3) | exact p (nI 4) | exact p (nI 5)
theorem c_taken (I : zInv L xs E s t n z J) : zAns L xs (F_X6_taken x y) (F_X7_taken x y) J := by
  obtain ⟨g, h8, ht, htn, h4, hC, _⟩ := inv_d I
  by_cases hy : 0 ≤ y.toInt ∧ y.toInt ≤ 5
  · obtain ⟨k, hk, rfl⟩ := i_upto (x := y) (m := 5) hy (by omega)
    have c1 : ¬ nI k < (0 : Int32) := by rw [i_lt, i_nI (by omega)]; show ¬ (k : Int) < 0; omega
    have c2 : nI k < (6 : Int32) := by rw [i_lt, i_nI (by omega)]; show (k : Int) < 6; omega
    by_cases hx : 0 ≤ x.toInt ∧ x.toInt < s
    · obtain ⟨i, hi, rfl⟩ := w_one g hx
      obtain ⟨a, ha, ea⟩ := (g.2.2.1 i hi).1
      have ea : J.2 8 i = nI a := ea
      refine zAns.q I (if zUnd a k then J.2 9 i else -13) ⟨J, ?_, zFrC.rf⟩ (fun J1 I1 ti => ⟨J1, ?_, zFrR.rf, ti⟩)
      · unfold F_X6_taken
        rw [if_neg c1, if_pos c2, c7_has I, Option.bind_some, zOne_t hx]
        refine (if_neg (by first | exact n10 | decide)).trans ?_
        have e1 : F_X0_kindOf 7 (nI i) J = some (nI a, J) := by
          rw [co_kindOf zC7, i_nI (by omega), if_pos (by omega), ← ea]
          rfl
        have e2 : F_X0_numberOf 7 (nI i) J = some (J.2 9 i, J) := by
          rw [co_numberOf zC7, i_nI (by omega), if_pos (by omega)]
          rfl
        rw [e1, Option.bind_some]
        dsimp only
        rw [b_under a ha k (by omega), Option.bind_some]
        dsimp only
        by_cases hu : zUnd a k = true
        · rw [if_pos hu, if_pos hu]
          refine (if_neg (by first | exact n10 | decide)).trans ?_
          rw [e2]
          rfl
        · rw [if_neg hu, if_neg hu]
          exact if_pos rfl
      · unfold F_X7_taken
        rw [b_inI, Option.bind_some, zOne_t (by exact hy)]
        refine (if_neg (by first | exact n10 | decide)).trans ?_
        rw [r_isOne g ti, Option.bind_some, zOne_t hx]
        refine (if_neg (by first | exact n10 | decide)).trans ((if_pos (i_ix (by omega) (by omega))).trans ?_)
        dsimp only
        rw [i_cm (by omega), (ti.1 i hi).1]
        show F_X7_taken_33 4096 (nI i) (nI k) (J.2 8 i) J1 = _
        rw [ea, r_taken33 (by omega) a ha k (by omega), (ti.1 i hi).2.1]
        rfl
    · refine zAns.q I (-11) ⟨J, ?_, zFrC.rf⟩ (fun J1 I1 ti => ⟨J1, ?_, zFrR.rf, ti⟩)
      · unfold F_X6_taken
        rw [if_neg c1, if_pos c2, c7_has I, Option.bind_some, zOne_f hx]
        exact if_pos rfl
      · unfold F_X7_taken
        rw [b_inI, Option.bind_some, zOne_t (by exact hy)]
        refine (if_neg (by first | exact n10 | decide)).trans ?_
        rw [r_isOne g ti, Option.bind_some, zOne_f hx]
        exact if_pos rfl
  · refine zAns.q I (-2) ⟨J, ?_, zFrC.rf⟩ (fun J1 I1 ti => ⟨J1, ?_, zFrR.rf, ti⟩)
    · unfold F_X6_taken
      by_cases h1 : y < 0
      · rw [if_pos h1]
      · rw [if_neg h1, if_neg]
        rw [i_lt] at h1 ⊢
        have e0 : (0 : Int32).toInt = 0 := rfl
        have e1 : (6 : Int32).toInt = 6 := rfl
        omega
    · unfold F_X7_taken
      rw [b_inI, Option.bind_some, zOne_f (by exact hy)]
      exact if_pos rfl
end CB
