/-! ride, stop -/
def zSl (C : Nat → Prop) [∀ k, Decidable (C k)] (D : Nat → Int32) : Nat → Nat → Int32 → Int32 → Int32 × Int32
  | _, 0, f, l => (f, l)
  | k, e + 1, f, l => if C k ∧ D k < l then zSl C D (k + 1) e (nI k) (D k) else zSl C D (k + 1) e f l
abbrev zRs (E : zEv2) (w : zVw) (t s : Nat) (off : Int32) (b : Nat) : zS5 := zRun (zQf E w t) (w 0 2) s off 0 b zS0
section RC
variable {L : Nat} {xs : Nat → Int32} {E : zEv2} {s t n z : Nat} {J J1 J2 : zzJ} {w w' : zVw} {x y v off : Int32} {a r i : Nat} {st : zS5}
theorem rem10 {k : Nat} (hk : k < 1000) : zRem (nI k) 10 = nI (k % 10) := pk_rem (d := 10) (by omega) (by omega) (by omega)
theorem b_isRide : F_X6_isRide x J = some (zOne (0 ≤ x.toInt ∧ x.toInt ≤ 60), J) := by
  unfold F_X6_isRide zOne
  have e0 : (0 : Int32).toInt = 0 := rfl
  have e6 : (60 : Int32).toInt = 60 := rfl
  by_cases h1 : x.toInt < 0
  · rw [if_pos (by rw [i_lt]; omega), if_neg (by omega)]
  · rw [if_neg (by rw [i_lt]; omega)]
    by_cases h2 : 60 < x.toInt
    · rw [if_pos (by rw [i_lt]; omega), if_neg (by omega)]
    · rw [if_neg (by rw [i_lt]; omega), if_pos (by omega)]
theorem t_plan7 {b : Nat} (hb : b ≤ 60) (g : zGoodV w s) (ht : w 0 3 = nI t) (htn : t < n) (c : zCx E n w J) : ∃ J1, F_X3_plan 7 (nI b) J = some J1 ∧ zPl J1 (zQf E w t) (w 0 2) b s ∧ zFrC J J1 := by
  obtain ⟨J1, e, p, a, o⟩ := t_plan (Or.inl rfl) g.1 g.2.1 ht htn hb c.1 c.2
  exact ⟨J1, e, p, a, fun k hk => o k (by omega) (by omega) (by omega) (by omega)⟩
theorem t_sick7 {b : Nat} (hb : b ≤ 60) (hs : s ≤ 8) {q : Nat → Nat → Int32} {lim : Int32} (p : zPl J q lim b s) : ∃ J1, F_X3_sick off J = some ((zRun q lim s off 0 b zS0).2.2.2.1, J1) ∧ zRi J1 (zRun q lim s off 0 b zS0) s ∧ zPl J1 q lim b s ∧ zFrC J J1 := by
  obtain ⟨J1, e, r, a, o⟩ := t_sick (off := off) hb hs p
  exact ⟨J1, e, r, zPl_f (o 28 (by omega) (by omega) (by omega)) (o 29 (by omega) (by omega) (by omega)) p, a, fun k hk => o k (by omega) (by omega) (by omega)⟩
/-- what is asked of a ride -/
abbrev zOne10 (s k : Nat) : Prop := 10 ≤ k ∧ k ≤ 29 ∧ k % 10 < s
theorem c_ride (I : zInv L xs E s t n z J) : zAns L xs (F_X6_ride x y) (F_X7_ride x y) J := by
  obtain ⟨g, h8, ht, htn, h4, hC, hR⟩ := inv_d I
  have e0 : (0 : Int32).toInt = 0 := rfl
  have e10 : (10 : Int32).toInt = 10 := rfl
  have e30 : (30 : Int32).toInt = 30 := rfl
  have hasr : ∀ k, k < 1000 → F_X0_has 7 (zRem (nI k) 10) J = some (zOne (k % 10 < s), J) := fun k hk => by
    rw [rem10 hk, c7_has I, i_nI (by omega)]
    congr 2
    unfold zOne
    by_cases h : k % 10 < s
    · rw [if_pos h, if_pos (by omega)]
    · rw [if_neg h, if_neg (by omega)]
  have isr : ∀ (J1 : zzJ) k, zTieV J1 (zW 7 J) s → k < 1000 → F_X7_isOne (zRem (nI k) 10) J1 = some (zOne (k % 10 < s), J1) := fun J1 k ti hk => by
    rw [rem10 hk, r_isOne g ti, i_nI (by omega)]
    congr 2
    unfold zOne
    by_cases h : k % 10 < s
    · rw [if_pos h, if_pos (by omega)]
    · rw [if_neg h, if_neg (by omega)]
  by_cases hx : 0 ≤ x.toInt ∧ x.toInt ≤ 60
  · obtain ⟨b, hb, rfl⟩ := i_upto (x := x) (m := 60) hx (by omega)
    by_cases hy : ∃ k, y = nI k ∧ (k < 2 ∨ zOne10 s k)
    · obtain ⟨k, rfl, hk⟩ := hy
      have c : zCx E n (zW 7 J) J := ⟨zVe.rf, hC⟩
      obtain ⟨J1, e1, p1, f1⟩ := t_plan7 hb g ht htn c
      obtain ⟨J2, e2, r2, p2, f2⟩ := t_sick7 (off := -1) hb h8 p1
      generalize hT : zRun (zQf E (zW 7 J) t) (zW 7 J 0 2) s (-1) 0 b zS0 = T at e2 r2
      have gT : zSg T s b 0 := by
        have := zSg_run (q := zQf E (zW 7 J) t) (lim := zW 7 J 0 2) (off := -1) h8 b 0 zS0 (by omega) zSg_0
        rw [hT, Nat.zero_add] at this
        exact this
      have fsk := t_firstSick hb h8 p2.2.1 r2 gT
      have rf : ∀ (J1 : zzJ), zRx E n s (zW 7 J) J1 → ∃ J2, F_X7_rides (nI b) (-1) J1 = some J2 ∧ zRx E n s (zW 7 J) J2 ∧ zFrR J1 J2 ∧ zRr J2 T s := fun J1 c1 => by
        obtain ⟨J2, a, b, c, d⟩ := m_rides (off := -1) hb g ht htn c1
        rw [hT] at d
        exact ⟨J2, a, b, c.1, d⟩
      by_cases hk2 : k < 2
      · have cl : ∀ q, F_X6_ride_67 (nI b) (nI k) 1 J = q → F_X6_ride (nI b) (nI k) J = q := by
          intro q hq
          have h14 : F_X6_ride_14 (nI b) (nI k) 1 J = q := by
            unfold F_X6_ride_14 F_X6_ride_45 F_X6_ride_46
            rw [if_pos (by rw [i_lt, i_nI (by omega)]; omega), b_isRide, Option.bind_some, zOne_t hx]
            exact (if_neg n10).trans ((if_neg n10).trans hq)
          unfold F_X6_ride F_X6_ride_9
          rw [h14]
          rcases (show k = 0 ∨ k = 1 by omega) with rfl | rfl <;> rfl
        have rl : ∀ (J1 : zzJ) q, F_X7_ride_60 (nI b) (nI k) J1 = q → F_X7_ride (nI b) (nI k) J1 = q := by
          intro J1 q hq
          unfold F_X7_ride F_X7_ride_29 F_X7_ride_30
          rw [b_inI, Option.bind_some, zOne_f (by rw [i_nI (by omega)]; have : (10 : Int64).toInt = 10 := rfl; omega)]
          refine (if_pos rfl).trans ?_
          dsimp only
          rw [b_inI, Option.bind_some, zOne_t (by exact hx)]
          refine (if_neg n10).trans ?_
          dsimp only
          rw [b_inI, Option.bind_some, zOne_t (by rw [i_nI (by omega)]; have h0 : (0 : Int64).toInt = 0 := rfl; have h1 : (1 : Int64).toInt = 1 := rfl; omega)]
          exact (if_neg n10).trans hq
        rcases (show k = 0 ∨ k = 1 by omega) with rfl | rfl
        · refine zAns.q I T.2.2.2.1 ⟨J2, cl _ ?_, f1.tr f2⟩ (fun J1 I1 ti => ?_)
          · unfold F_X6_ride_67
            rw [e1, Option.bind_some, e2, Option.bind_some]
            exact (if_neg n10).trans (if_pos rfl)
          · obtain ⟨J3, e3, c3, f3, r3⟩ := rf J1 ⟨ti, (inv_d I1).2.2.2.2.2.2⟩
            refine ⟨J3, rl _ _ ?_, f3, c3.1⟩
            unfold F_X7_ride_60
            rw [e3, Option.bind_some, r3.2.2.2.1]
            exact if_pos rfl
        · refine zAns.q I T.2.2.2.2 ⟨J2, cl _ ?_, f1.tr f2⟩ (fun J1 I1 ti => ?_)
          · unfold F_X6_ride_67
            rw [e1, Option.bind_some, e2, Option.bind_some]
            refine (if_neg n10).trans ((if_neg n10).trans ?_)
            dsimp only
            rw [fsk]
            rfl
          · obtain ⟨J3, e3, c3, f3, r3⟩ := rf J1 ⟨ti, (inv_d I1).2.2.2.2.2.2⟩
            refine ⟨J3, rl _ _ ?_, f3, c3.1⟩
            unfold F_X7_ride_60
            rw [e3, Option.bind_some, r3.2.2.2.2]
            exact (if_neg n10).trans (if_pos rfl)
      · have hk3 : zOne10 s k := hk.resolve_left hk2
        obtain ⟨k10, k29, kp⟩ := hk3
        have ny0 : ¬ nI k = (0 : Int32) := fun e => by have := i_inj (by omega) (by omega) (e.trans (show (0 : Int32) = nI 0 from rfl)); omega
        have ny1 : ¬ nI k = (1 : Int32) := fun e => by have := i_inj (by omega) (by omega) (e.trans (show (1 : Int32) = nI 1 from rfl)); omega
        have cl : ∀ q, F_X6_ride_67 (nI b) (nI k) 0 J = q → F_X6_ride (nI b) (nI k) J = q := by
          intro q hq
          unfold F_X6_ride F_X6_ride_14 F_X6_ride_46
          rw [if_neg ny0, if_neg ny1, if_neg (by rw [i_lt, i_nI (by omega)]; omega), if_pos (by rw [i_lt, i_nI (by omega)]; omega), hasr k (by omega), Option.bind_some, zOne_t kp]
          refine (if_neg n10).trans ?_
          dsimp only
          rw [b_isRide, Option.bind_some, zOne_t hx]
          exact (if_neg n10).trans ((if_pos rfl).trans ((if_neg n10).trans hq))
        have rl : ∀ (J1 : zzJ) q, zTieV J1 (zW 7 J) s → F_X7_ride_60 (nI b) (nI k) J1 = q → F_X7_ride (nI b) (nI k) J1 = q := by
          intro J1 q ti hq
          have h10 : (10 : Int64).toInt = 10 := rfl
          have h29 : (29 : Int64).toInt = 29 := rfl
          have h1 : (1 : Int64).toInt = 1 := rfl
          unfold F_X7_ride F_X7_ride_30
          rw [b_inI, Option.bind_some, zOne_t (by rw [i_nI (by omega)]; omega)]
          refine (if_neg n10).trans ?_
          dsimp only
          rw [isr J1 k ti (by omega), Option.bind_some, zOne_t kp]
          refine (if_neg n10).trans ?_
          dsimp only
          rw [b_inI, Option.bind_some, zOne_t (by exact hx)]
          refine (if_neg n10).trans ?_
          dsimp only
          rw [b_inI, Option.bind_some, zOne_f (by rw [i_nI (by omega)]; omega)]
          exact (if_pos rfl).trans ((if_neg n10).trans hq)
        have ir : ∀ (c z : Nat), zKd c = 8 → zSz c = 8 → F_X6_itemAt c (zRem (nI k) 10) J2 = some (J2.2 c (k % 10), J2) := fun c z h1 h2 => by rw [rem10 (by omega), b_it (z := 8) h1 h2 (by omega) (by omega)]
        have e20 : (20 : Int32).toInt = 20 := rfl
        by_cases hk20 : k < 20
        · have ek : k % 10 = k - 10 := by omega
          refine zAns.q I (T.2.2.1 (k % 10)) ⟨J2, cl _ ?_, f1.tr f2⟩ (fun J1 I1 ti => ?_)
          · unfold F_X6_ride_67
            rw [e1, Option.bind_some, e2, Option.bind_some]
            refine (if_pos rfl).trans ((if_pos (by rw [i_lt, i_nI (by omega)]; omega)).trans ?_)
            dsimp only
            rw [ir 31 8 rfl rfl, r2.2.2 _ kp]
            rfl
          · obtain ⟨J3, e3, c3, f3, r3⟩ := rf J1 ⟨ti, (inv_d I1).2.2.2.2.2.2⟩
            refine ⟨J3, rl _ _ ti ?_, f3, c3.1⟩
            unfold F_X7_ride_60
            rw [e3, Option.bind_some, if_neg ny0, if_neg ny1, if_pos (by rw [i_lt, i_nI (by omega)]; omega), show nI k - (10 : Int32) = nI (k - 10) from pk_sub (b := 10) (by omega), if_pos (i_ix (by omega) (by omega)), i_cm (by omega), ← ek, r3.2.2.1 _ kp]
        · have ek : k % 10 = k - 20 := by omega
          refine zAns.q I (T.2.1 (k % 10)) ⟨J2, cl _ ?_, f1.tr f2⟩ (fun J1 I1 ti => ?_)
          · unfold F_X6_ride_67
            rw [e1, Option.bind_some, e2, Option.bind_some]
            refine (if_pos rfl).trans ((if_neg (by rw [i_lt, i_nI (by omega)]; omega)).trans ?_)
            dsimp only
            rw [ir 32 8 rfl rfl, r2.2.1 _ kp]
            rfl
          · obtain ⟨J3, e3, c3, f3, r3⟩ := rf J1 ⟨ti, (inv_d I1).2.2.2.2.2.2⟩
            refine ⟨J3, rl _ _ ti ?_, f3, c3.1⟩
            unfold F_X7_ride_60
            rw [e3, Option.bind_some, if_neg ny0, if_neg ny1, if_neg (by rw [i_lt, i_nI (by omega)]; omega), show nI k - (20 : Int32) = nI (k - 20) from pk_sub (b := 20) (by omega), if_pos (i_ix (by omega) (by omega)), i_cm (by omega), ← ek, r3.2.1 _ kp]
    · have ny0 : ¬ y = (0 : Int32) := fun e => hy ⟨0, e, Or.inl (by omega)⟩
      have ny1 : ¬ y = (1 : Int32) := fun e => hy ⟨1, e, Or.inl (by omega)⟩
      have no : ∀ J1, F_X6_ride_46 (nI b) y 0 0 J1 = some (-2, J1) := fun J1 => by
        unfold F_X6_ride_46
        rw [b_isRide, Option.bind_some, zOne_t hx]
        rfl
      have h10 : (10 : Int64).toInt = 10 := rfl
      have h29 : (29 : Int64).toInt = 29 := rfl
      have h1 : (1 : Int64).toInt = 1 := rfl
      have h0 : (0 : Int64).toInt = 0 := rfl
      have rno : ∀ J1, F_X7_ride_30 (nI b) y 0 J1 = some (-2, J1) := fun J1 => by
        unfold F_X7_ride_30
        rw [b_inI, Option.bind_some, zOne_t (by exact hx)]
        refine (if_neg n10).trans ?_
        dsimp only
        rw [b_inI, Option.bind_some, zOne_f (by
          intro q
          obtain ⟨k, hk, rfl⟩ := i_upto (x := y) (m := 1) (by omega) (by omega)
          exact hy ⟨k, rfl, Or.inl (by omega)⟩)]
        rfl
      refine zAns.no (v := -2) I ?_ ?_
      · unfold F_X6_ride F_X6_ride_14 F_X6_ride_45
        rw [if_neg ny0, if_neg ny1, no]
        by_cases h1 : y.toInt < 10
        · rw [if_pos (by rw [i_lt]; omega)]
        · rw [if_neg (by rw [i_lt]; omega)]
          by_cases h2 : y.toInt < 30
          · rw [if_pos (by rw [i_lt]; omega)]
            obtain ⟨k, hk, rfl⟩ := i_upto (x := y) (m := 29) (by omega) (by omega)
            rw [i_nI (by omega)] at h1
            rw [hasr k (by omega), Option.bind_some, zOne_f (fun q => hy ⟨k, rfl, Or.inr ⟨by omega, hk, q⟩⟩)]
            exact (if_pos rfl).trans (no J)
          · rw [if_neg (by rw [i_lt]; omega)]
      · unfold F_X7_ride F_X7_ride_29
        by_cases h2 : 10 ≤ y.toInt ∧ y.toInt ≤ 29
        · rw [b_inI, Option.bind_some, zOne_t (by exact h2)]
          refine (if_neg n10).trans ?_
          obtain ⟨k, hk, rfl⟩ := i_upto (x := y) (m := 29) (by omega) (by omega)
          rw [i_nI (by omega)] at h2
          dsimp only
          rw [isr J k I.2.1.2.1 (by omega), Option.bind_some, zOne_f (fun q => hy ⟨k, rfl, Or.inr ⟨by omega, hk, q⟩⟩)]
          exact (if_pos rfl).trans (rno J)
        · rw [b_inI, Option.bind_some, zOne_f (by exact h2)]
          exact (if_pos rfl).trans (rno J)
  · have no : ∀ l t0 J1, F_X6_ride_46 x y l t0 J1 = some (-2, J1) := fun l t0 J1 => by
      unfold F_X6_ride_46
      rw [b_isRide, Option.bind_some, zOne_f hx]
      rfl
    have rno : ∀ t0 J1, F_X7_ride_30 x y t0 J1 = some (-2, J1) := fun t0 J1 => by
      unfold F_X7_ride_30
      rw [b_inI, Option.bind_some, zOne_f (by exact hx)]
      rfl
    have e14 : ∀ t0, F_X6_ride_14 x y t0 J = some (-2, J) := fun t0 => by
      unfold F_X6_ride_14 F_X6_ride_45
      rw [no]
      by_cases h1 : y.toInt < 10
      · rw [if_pos (by rw [i_lt]; omega)]
      · rw [if_neg (by rw [i_lt]; omega)]
        by_cases h2 : y.toInt < 30
        · rw [if_pos (by rw [i_lt]; omega)]
          obtain ⟨k, hk, rfl⟩ := i_upto (x := y) (m := 29) (by omega) (by omega)
          rw [hasr k (by omega), Option.bind_some]
          dsimp only
          rw [no, no]
          split <;> rfl
        · rw [if_neg (by rw [i_lt]; omega)]
    refine zAns.no (v := -2) I ?_ ?_
    · unfold F_X6_ride F_X6_ride_9
      rw [e14, e14]
      split
      · rfl
      · split <;> rfl
    · unfold F_X7_ride F_X7_ride_29
      rw [b_inI, Option.bind_some]
      dsimp only
      have h10 : (10 : Int64).toInt = 10 := rfl
      have h29 : (29 : Int64).toInt = 29 := rfl
      by_cases h2 : 10 ≤ y.toInt ∧ y.toInt ≤ 29
      · rw [zOne_t (by exact h2), if_neg n10]
        obtain ⟨k, hk, rfl⟩ := i_upto (x := y) (m := 29) (by omega) (by omega)
        rw [isr J k I.2.1.2.1 (by omega), Option.bind_some]
        dsimp only
        rw [rno, rno]
        split <;> rfl
      · rw [zOne_f (by exact h2), if_pos rfl, rno]
end RC
