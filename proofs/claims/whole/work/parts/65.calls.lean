/-! writes of a view; passenger, set -/
def zWr (w : zVw) (r i : Nat) (v : Int32) : zVw := fun r' j => if r' = r ∧ j = i then v else w r' j
section WR
variable {L : Nat} {xs : Nat → Int32} {E : zEv2} {s t n z : Nat} {J J1 : zzJ} {w w' : zVw} {x y v : Int32} {a r i : Nat}
theorem ve_wr (h : zVe w (zW a J)) : zVe (zWr w r i v) (zW a (wI J (a + r) i v)) := by
  refine ⟨fun k h1 h2 => ?_, fun r' h1 h2 j hj => ?_, fun j hj => ?_⟩
  · show (wI J (a + r) i v).2 (a + 0) k = _
    unfold zWr
    rw [wI_get]
    by_cases hc : 0 = r ∧ k = i
    · rw [if_pos (by omega), if_pos hc]
    · rw [if_neg (by omega), if_neg hc]; exact h.1 k h1 h2
  · show (wI J (a + r) i v).2 (a + r') j = _
    unfold zWr
    rw [wI_get]
    by_cases hc : r' = r ∧ j = i
    · rw [if_pos (by omega), if_pos hc]
    · rw [if_neg (by omega), if_neg hc]; exact h.2.1 r' h1 h2 j hj
  · show (wI J (a + r) i v).2 (a + 5) j = _
    unfold zWr
    rw [wI_get]
    by_cases hc : 5 = r ∧ j = i
    · rw [if_pos (by omega), if_pos hc]
    · rw [if_neg (by omega), if_neg hc]; exact h.2.2 j hj
theorem zWr_o {r' j : Nat} (h : r' ≠ r ∨ j ≠ i) : zWr w r i v r' j = w r' j := if_neg (by omega)
theorem zWr_s : zWr w r i v r i = v := if_pos ⟨rfl, rfl⟩
theorem zWr_r {r' : Nat} (h : r' ≠ r) : zWr w r i v r' = w r' := by funext j; exact zWr_o (Or.inl h)
theorem tie_wr (ti : zTieV J w s) (h1 : 1 ≤ r) (h4 : r ≤ 4) : zTieV (wI J (49 + r) i v) (zWr w r i v) s := by
  refine ⟨fun j hj => ?_, fun k hk => ?_, ?_, ?_, ?_, ?_⟩
  · have q := ti.1 j hj
    rw [wI_get, wI_get, wI_get, wI_get]
    unfold zWr
    rcases (show r = 1 ∨ r = 2 ∨ r = 3 ∨ r = 4 by omega) with rfl | rfl | rfl | rfl <;> by_cases hji : j = i <;> simp [hji, q.1, q.2.1, q.2.2.1, q.2.2.2] <;> simp only [← hji, q.1, q.2.1, q.2.2.1, q.2.2.2, and_self]
  · rw [wI_get, if_neg (by omega), zWr_o (by omega)]; exact ti.2.1 k hk
  · rw [wI_get, if_neg (by omega), zWr_o (by omega)]; exact ti.2.2.1
  · rw [wI_get, if_neg (by omega), zWr_o (by omega)]; exact ti.2.2.2.1
  · rw [wI_get, if_neg (by omega), zWr_o (by omega)]; exact ti.2.2.2.2.1
  · rw [wI_get, if_neg (by omega), zWr_o (by omega)]; exact ti.2.2.2.2.2
theorem tie_wf {k f : Nat} (ti : zTieV J w s) (h : (k = 7 ∧ f = 1) ∨ (k = 8 ∧ f = 2) ∨ (k = 4 ∧ f = 3)) : zTieV (wI J 46 k v) (zWr w 0 f v) s := by
  refine ⟨fun j hj => ?_, fun k hk => ?_, ?_, ?_, ?_, ?_⟩
  · rw [wI_ne (by omega), wI_ne (by omega), wI_ne (by omega), wI_ne (by omega), zWr_r (by omega), zWr_r (by omega), zWr_r (by omega), zWr_r (by omega)]
    exact ti.1 j hj
  · rw [wI_ne (by omega), zWr_r (by omega)]; exact ti.2.1 k hk
  · rcases h with ⟨rfl, rfl⟩ | ⟨rfl, rfl⟩ | ⟨rfl, rfl⟩ <;> simp [wI_get, zWr, ti.2.2.1]
  · rcases h with ⟨rfl, rfl⟩ | ⟨rfl, rfl⟩ | ⟨rfl, rfl⟩ <;> simp [wI_get, zWr, ti.2.2.2.1]
  · rcases h with ⟨rfl, rfl⟩ | ⟨rfl, rfl⟩ | ⟨rfl, rfl⟩ <;> simp [wI_get, zWr, ti.2.2.2.2.1]
  · rw [wI_get, if_neg (by omega), zWr_o (by omega)]; exact ti.2.2.2.2.2
/-- one more comes -/
def zJn (w : zVw) (kd nb : Int32) (s : Nat) : zVw := zWr (zWr (zWr (zWr (zWr w 1 s kd) 2 s nb) 3 s (-1)) 4 s (-1)) 0 4 (nI (s + 1))
abbrev zPok (x y : Int32) : Prop := (0 ≤ x.toInt ∧ x.toInt ≤ 5) ∧ 0 ≤ y.toInt ∧ y.toInt ≤ 9
def zPv (x y : Int32) (s : Nat) : Int32 := if zPok x y then (if s = 8 then -4 else nI s) else -2
def zPw (w : zVw) (x y : Int32) (s : Nat) : zVw := if zPok x y ∧ s ≠ 8 then zJn w x y s else w
def zPs (x y : Int32) (s : Nat) : Nat := if zPok x y ∧ s ≠ 8 then s + 1 else s
theorem zJn_o {r j : Nat} (h : j ≠ s) (h4 : r ≠ 0 ∨ j ≠ 4) : zJn w x y s r j = w r j := by
  unfold zJn
  rw [zWr_o (by omega), zWr_o (by omega), zWr_o (by omega), zWr_o (by omega), zWr_o (by omega)]
theorem zJn_5 : zJn w x y s 5 = w 5 := by
  unfold zJn
  rw [zWr_r (by omega), zWr_r (by omega), zWr_r (by omega), zWr_r (by omega), zWr_r (by omega)]
theorem zJn_f {k : Nat} (h : k ≠ 4) : zJn w x y s 0 k = w 0 k := by
  unfold zJn
  rw [zWr_o (by omega), zWr_o (by omega), zWr_o (by omega), zWr_o (by omega), zWr_o (by omega)]
theorem zJn_s : zJn w x y s 1 s = x ∧ zJn w x y s 2 s = y ∧ zJn w x y s 3 s = -1 ∧ zJn w x y s 4 s = -1 ∧ zJn w x y s 0 4 = nI (s + 1) := by
  unfold zJn zWr
  simp
theorem g_pass (g : zGoodV w s) : zGoodV (zPw w x y s) (zPs x y s) := by
  unfold zPw zPs
  by_cases h : zPok x y ∧ s ≠ 8
  · have h8 := g.1
    obtain ⟨a, b⟩ := h
    rw [if_pos ⟨a, b⟩, if_pos ⟨a, b⟩]
    obtain ⟨p1, p2, p3, p4, p5⟩ := zJn_s (w := w) (x := x) (y := y) (s := s)
    refine ⟨by omega, p5, fun i hi => ?_, fun k hk => ?_⟩
    · by_cases his : i = s
      · subst his
        rw [p1, p2, p3, p4]
        obtain ⟨k, hk, e⟩ := i_upto (x := x) (m := 5) a.1 (by omega)
        obtain ⟨k2, hk2, e2⟩ := i_upto (x := y) (m := 9) a.2 (by omega)
        exact ⟨⟨k, by omega, e⟩, ⟨k2, by omega, e2⟩, Or.inl rfl, Or.inl rfl⟩
      · obtain ⟨q1, q2, q3, q4⟩ := g.2.2.1 i (by omega)
        rw [zJn_o his (by omega), zJn_o his (by omega), zJn_o his (by omega), zJn_o his (by omega), zJn_5]
        exact ⟨q1, q2, q3.imp id (fun ⟨j, a, b, c⟩ => ⟨j, by omega, b, c⟩), q4⟩
    · rw [zJn_5]
      rcases g.2.2.2 k hk with q | ⟨i, hi, q1, q2⟩
      · exact Or.inl q
      · exact Or.inr ⟨i, by omega, q1, by rw [zJn_o (by omega) (by omega)]; exact q2⟩
  · rw [if_neg h, if_neg h]; exact g
theorem t_pass (v : zVe w (zW 7 J)) (g : zGoodV w s) : ∃ J1, F_X6_passenger x y J = some (zPv x y s, J1) ∧ zVe (zPw w x y s) (zW 7 J1) ∧ J1.1 = J.1 ∧ ∀ b, (b < 7 ∨ 11 < b) → J1.2 b = J.2 b := by
  have h8 := g.1
  have h4 : J.2 7 4 = nI s := (v.1 4 (by omega) (by omega)).trans g.2.1
  have e0 : (0 : Int32).toInt = 0 := rfl
  have e6 : (6 : Int32).toInt = 6 := rfl
  have e9 : (9 : Int32).toInt = 9 := rfl
  have e8 : (8 : Int32).toInt = 8 := rfl
  unfold F_X6_passenger
  simp only [i_lt, e0, e6, e9, e8, h4, i_nI (show s < 2147483648 by omega)]
  by_cases hok : zPok x y
  · rw [if_neg (by omega), if_pos (by omega), if_neg (by omega), if_neg (by omega)]
    by_cases hs : s = 8
    · refine ⟨J, ?_, ?_, rfl, fun _ _ => rfl⟩
      · rw [if_neg (by omega)]
        unfold zPv
        rw [if_pos hok, if_pos hs]
      · unfold zPw
        rw [if_neg (fun q => q.2 hs)]
        exact v
    · have p : ∀ (r : Nat) (u : Int32) (J' : zzJ), 1 ≤ r → r ≤ 4 → F_X6_put (7 + r) (nI s) u J' = some (wI J' (7 + r) s u) := by
        intro r u J' h1 h2
        rw [b_put (n := 8) (by rcases (show r = 1 ∨ r = 2 ∨ r = 3 ∨ r = 4 by omega) with rfl | rfl | rfl | rfl <;> rfl) (by rcases (show r = 1 ∨ r = 2 ∨ r = 3 ∨ r = 4 by omega) with rfl | rfl | rfl | rfl <;> rfl) (by omega), if_pos (by rw [i_nI (by omega)]; omega), i_nI (by omega)]
        rfl
      refine ⟨wI (wI (wI (wI (wI J 8 s x) 9 s y) 10 s (-1)) 11 s (-1)) 7 4 (nI (s + 1)), ?_, ?_, rfl, fun b hb => ?_⟩
      · rw [if_pos (by omega)]
        unfold F_X0_join
        have q := co_r zC7
        rw [if_pos (co_kd zC7), q.2.1, Option.bind_some, h4, p 1 x J (by omega) (by omega), Option.bind_some, q.2.2.1, Option.bind_some]
        show Option.bind (Option.bind (F_X6_put (7 + 2) ((wI J 8 s x).2 7 4) y (wI J 8 s x)) _) _ = _
        rw [show (wI J 8 s x).2 7 4 = nI s from h4, p 2 y _ (by omega) (by omega), Option.bind_some, q.2.2.2.1, Option.bind_some]
        show Option.bind (Option.bind (F_X6_put (7 + 3) ((wI (wI J 8 s x) 9 s y).2 7 4) (-1) (wI (wI J 8 s x) 9 s y)) _) _ = _
        rw [show (wI (wI J 8 s x) 9 s y).2 7 4 = nI s from h4, p 3 (-1) _ (by omega) (by omega), Option.bind_some, q.2.2.2.2.1, Option.bind_some]
        show Option.bind (Option.bind (F_X6_put (7 + 4) ((wI (wI (wI J 8 s x) 9 s y) 10 s (-1)).2 7 4) (-1) (wI (wI (wI J 8 s x) 9 s y) 10 s (-1))) _) _ = _
        rw [show (wI (wI (wI J 8 s x) 9 s y) 10 s (-1)).2 7 4 = nI s from h4, p 4 (-1) _ (by omega) (by omega), Option.bind_some, Option.bind_some]
        show some ((wI (wI (wI (wI (wI J 8 s x) 9 s y) 10 s (-1)) 11 s (-1)) 7 4 ((wI (wI (wI (wI J 8 s x) 9 s y) 10 s (-1)) 11 s (-1)).2 7 4 + 1)).2 7 4 - 1, _) = _
        rw [show (wI (wI (wI (wI J 8 s x) 9 s y) 10 s (-1)) 11 s (-1)).2 7 4 = nI s from h4, ← nI_succ]
        unfold zPv
        rw [if_pos hok, if_neg hs, wI_get, if_pos ⟨rfl, rfl⟩, nI_pred]
      · unfold zPw
        rw [if_pos ⟨hok, hs⟩]
        exact ve_wr (r := 0) (ve_wr (r := 4) (ve_wr (r := 3) (ve_wr (r := 2) (ve_wr (r := 1) v))))
      · rw [wI_ne (by omega), wI_ne (by omega), wI_ne (by omega), wI_ne (by omega), wI_ne (by omega)]
  · refine ⟨J, ?_, ?_, rfl, fun _ _ => rfl⟩
    · unfold zPv
      rw [if_neg hok]
      by_cases h1 : x.toInt < 0
      · rw [if_pos h1]
      · rw [if_neg h1]
        by_cases h2 : x.toInt < 6
        · rw [if_pos h2]
          by_cases h3 : y.toInt < 0
          · rw [if_pos h3]
          · rw [if_neg h3, if_pos (by omega)]
        · rw [if_neg h2]
    · unfold zPw
      rw [if_neg (fun q => hok q.1)]
      exact v
theorem m_pass (g : zGoodV w s) (ti : zTieV J w s) : ∃ J2, F_X7_passenger x y J = some (zPv x y s, J2) ∧ zTieV J2 (zPw w x y s) (zPs x y s) ∧ J2.1 = J.1 ∧ (∀ b, b ≠ 46 → (b < 50 ∨ 53 < b) → J2.2 b = J.2 b) ∧ ∀ k, k ≠ 14 → J2.2 46 k = J.2 46 k := by
  have h8 := g.1
  have hm := r_many g ti
  unfold F_X7_passenger
  by_cases hx : 0 ≤ x.toInt ∧ x.toInt ≤ 5
  · rw [b_inI, Option.bind_some, zOne_t (by exact hx)]
    by_cases hy : 0 ≤ y.toInt ∧ y.toInt ≤ 9
    · have hok : zPok x y := ⟨hx, hy⟩
      dsimp only
      rw [if_neg (by first | exact n10 | decide), b_inI, Option.bind_some, zOne_t (by exact hy)]
      dsimp only
      rw [if_neg (by first | exact n10 | decide), hm]
      by_cases hs : s = 8
      · subst hs
        refine ⟨J, ?_, ?_, rfl, fun _ _ _ => rfl, fun _ _ => rfl⟩
        · refine (if_pos (by decide)).trans ?_
          unfold zPv
          rw [if_pos hok, if_pos rfl]
        · unfold zPw zPs
          rw [if_neg (fun q => q.2 rfl), if_neg (fun q => q.2 rfl)]
          exact ti
      · have hx8 : zzIx (nI s) 8 := i_ix (by omega) (by omega)
        have hc : (nI s).toNatClampNeg = s := i_cm (by omega)
        have a1 : (wI J 50 s x).2 46 14 = nI s := hm
        have a2 : (wI (wI J 50 s x) 51 s y).2 46 14 = nI s := hm
        have a3 : (wI (wI (wI J 50 s x) 51 s y) 52 s (-1)).2 46 14 = nI s := hm
        have a4 : (wI (wI (wI (wI J 50 s x) 51 s y) 52 s (-1)) 53 s (-1)).2 46 14 = nI s := hm
        refine ⟨wI (wI (wI (wI (wI J 50 s x) 51 s y) 52 s (-1)) 53 s (-1)) 46 14 (nI (s + 1)), ?_, ?_, rfl, fun b h1 h2 => ?_, fun k hk => ?_⟩
        · rw [if_neg (fun e => hs (i_inj (by omega) (by omega) (e.trans (show (8 : Int32) = nI 8 from rfl)))), if_pos hx8]
          simp only [hc, a1, a2, a3, a4, if_pos hx8]
          rw [← nI_succ, wI_get, if_pos ⟨rfl, rfl⟩, nI_pred]
          unfold zPv
          rw [if_pos hok, if_neg hs]
        · unfold zPw zPs
          rw [if_pos ⟨hok, hs⟩, if_pos ⟨hok, hs⟩]
          have q := tie_wr (r := 4) (i := s) (v := -1) (tie_wr (r := 3) (i := s) (v := -1) (tie_wr (r := 2) (i := s) (v := y) (tie_wr (r := 1) (i := s) (v := x) ti (by omega) (by omega)) (by omega) (by omega)) (by omega) (by omega)) (by omega) (by omega)
          refine ⟨fun j hj => ?_, fun k hk => ?_, ?_, ?_, ?_, ?_⟩
          · by_cases hjs : j = s
            · subst hjs
              obtain ⟨p1, p2, p3, p4, p5⟩ := zJn_s (w := w) (x := x) (y := y) (s := j)
              rw [p1, p2, p3, p4]
              simp [wI_get]
            · have q1 := q.1 j (by omega)
              rw [wI_ne (by omega), wI_ne (by omega), wI_ne (by omega), wI_ne (by omega)]
              exact q1
          · rw [zJn_5, wI_ne (by omega), wI_ne (by omega), wI_ne (by omega), wI_ne (by omega), wI_ne (by omega)]
            exact ti.2.1 k hk
          · rw [zJn_f (by omega)]; exact ti.2.2.1
          · rw [zJn_f (by omega)]; exact ti.2.2.2.1
          · rw [zJn_f (by omega)]; exact ti.2.2.2.2.1
          · rw [(zJn_s (w := w) (x := x) (y := y) (s := s)).2.2.2.2]
            simp [wI_get]
        · rw [wI_ne (by omega), wI_ne (by omega), wI_ne (by omega), wI_ne (by omega), wI_ne (by omega)]
        · rw [wI_get, if_neg (by omega)]; rfl
    · refine ⟨J, ?_, ?_, rfl, fun _ _ _ => rfl, fun _ _ => rfl⟩
      · dsimp only
        rw [if_neg (by first | exact n10 | decide), b_inI, Option.bind_some, zOne_f (by exact hy)]
        rw [show zPv x y s = -2 from if_neg (fun q => hy q.2)]
        exact if_pos rfl
      · unfold zPw zPs
        rw [if_neg (fun q => hy q.1.2), if_neg (fun q => hy q.1.2)]
        exact ti
  · refine ⟨J, ?_, ?_, rfl, fun _ _ _ => rfl, fun _ _ => rfl⟩
    · rw [b_inI, Option.bind_some, zOne_f (by exact hx)]
      rw [show zPv x y s = -2 from if_neg (fun q => hx q.1)]
      exact if_pos rfl
    · unfold zPw zPs
      rw [if_neg (fun q => hx q.1.1), if_neg (fun q => hx q.1.1)]
      exact ti
theorem zPs_le : s ≤ zPs x y s := by unfold zPs; split <;> omega
theorem zPw_1 {i : Nat} (hi : i < s) : zPw w x y s 1 i = w 1 i := by
  unfold zPw
  split
  · exact zJn_o (by omega) (by omega)
  · rfl
theorem zPw_3 : zPw w x y s 0 3 = w 0 3 := by
  unfold zPw
  split
  · exact zJn_f (by omega)
  · rfl
theorem c_passenger (I : zInv L xs E s t n z J) : zAns L xs (F_X6_passenger x y) (F_X7_passenger x y) J := by
  obtain ⟨g, h8, ht, htn, h4, hC, _⟩ := inv_d I
  obtain ⟨J1, e1, v1, a1, b1⟩ := t_pass (x := x) (y := y) (zVe.rf (w := zW 7 J)) g
  have ti1 : zTieV J1 (zW 7 J) s := tieJ (fun b _ _ => b1 b (by omega)) (fun k _ => by rw [b1 46 (by omega)]) I.2.1.2.1
  obtain ⟨J2, e2, t2, a2, b2, c2⟩ := m_pass (x := x) (y := y) g ti1
  have g2 := g_pass (x := x) (y := y) g
  have v2 : zVe (zPw (zW 7 J) x y s) (zW 7 J2) := veW (J := J1) (fun b _ _ => b2 b (by omega) (by omega)) v1
  refine ⟨_, J1, J2, e1, e2, E, zPs x y s, t, n, z, ?_, zIA_of I.1 a1 (b1 2000 (by omega))⟩
  refine inv_B I (a2.trans a1) (fun b hb => (b2 b (by omega) (by omega)).trans (b1 b (by omega))) (fun k _ _ _ h => by rw [c2 k h, b1 46 (by omega)]) (fun i hi => ?_) zPs_le ⟨zVe_good v2 g2, zVe_tie v2 g2.1 t2, ?_, htn⟩
  · exact (v2.2.1 1 (by omega) (by omega) i (by omega)).trans (zPw_1 hi)
  · exact (v2.1 3 (by omega) (by omega)).trans (zPw_3.trans ht)
end WR
