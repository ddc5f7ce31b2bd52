/-! what is tried in thought: din, a move, a change -/
abbrev zDin (E : zEv2) (w : zVw) (t s : Nat) : Int32 := zAcc (zNoise E w t) 0 0 s
abbrev zJoy (E : zEv2) (w : zVw) (t s : Nat) : Int32 := zAcc (zGlad E w t) 0 0 s
abbrev zCx (E : zEv2) (n : Nat) (w : zVw) (J : zzJ) : Prop := zVe w (zW 7 J) ∧ zTxC E n (J.2 2) (J.2 3)
abbrev zRx (E : zEv2) (n s : Nat) (w : zVw) (J : zzJ) : Prop := zTieV J w s ∧ zTxR E n (J.2 47) (J.2 48)
/-- two change their seats -/
def zXc (w : zVw) (i j : Nat) : zVw := zMv (zMv (zMv w i (-1)) j (w 4 i)) i (w 4 j)
section TR
variable {E : zEv2} {s t n : Nat} {J J1 J2 : zzJ} {w w' : zVw} {x y v q : Int32} {a r i j : Nat}
theorem zCx.fr (h : zFrC J J1) (c : zCx E n w J) : zCx E n w J1 := ⟨veW (fun b _ _ => h.2 b (by omega)) c.1, by rw [h.2 2 (by omega), h.2 3 (by omega)]; exact c.2⟩
theorem zRx.fr (h : zFrR J J1) (ti : zTieV J1 w s) (c : zRx E n s w J) : zRx E n s w J1 := ⟨ti, by rw [h.1 47 (by omega) (by omega), h.1 48 (by omega) (by omega)]; exact c.2⟩
theorem zRx.lo (h : zLow J J1) (c : zRx E n s w J) : zRx E n s w J1 := ⟨h.tie c.1, h.tx c.2⟩
theorem zDin_ve (h : zVe w w') : zDin E w' t s = zDin E w t s := zAcc_eq s 0 0 (fun j _ _ => zVe_noise h E t (nI j))
theorem zJoy_ve (h : zVe w w') : zJoy E w' t s = zJoy E w t s := zAcc_eq s 0 0 (fun j _ _ => zVe_glad h E t (nI j))
theorem t_din (ha : zCoach a) (v : zVe w (zW a J)) (h4 : w 0 4 = nI s) (hs : s ≤ 8) (ht : w 0 3 = nI t) (htn : t < n) (hC : zTxC E n (J.2 2) (J.2 3)) : ∃ J1, F_X0_din a J = some (zDin E w t s, J1) ∧ zSame a J J1 := by
  obtain ⟨J1, e, f⟩ := cw_din (s := s) ha htn (by omega) hC ((v.1 3 (by omega) (by omega)).trans ht) ((v.1 4 (by omega) (by omega)).trans h4)
  exact ⟨J1, by rw [e]; congr 2; exact zDin_ve v, f⟩
theorem t_joy (ha : zCoach a) (v : zVe w (zW a J)) (h4 : w 0 4 = nI s) (hs : s ≤ 8) (ht : w 0 3 = nI t) (htn : t < n) (hC : zTxC E n (J.2 2) (J.2 3)) : ∃ J1, F_X0_joy a J = some (zJoy E w t s, J1) ∧ zSame a J J1 := by
  obtain ⟨J1, e, f⟩ := cw_joy (s := s) ha htn (by omega) hC ((v.1 3 (by omega) (by omega)).trans ht) ((v.1 4 (by omega) (by omega)).trans h4)
  exact ⟨J1, by rw [e]; congr 2; exact zJoy_ve v, f⟩
/-- thought takes over what is now -/
theorem t_now (c : zCx E n w J) : ∃ J1, F_X0_take 14 7 J = some J1 ∧ zVe w (zW 14 J1) ∧ zFrC J J1 := by
  obtain ⟨J1, e, v, a, b⟩ := t_take (J := J) zC14 zC7 (by omega)
  exact ⟨J1, e, c.1.tr v, a, fun p hp => b p (by omega)⟩
theorem t_mvt (v : zVe w (zW 14 J)) (g : zGoodV w s) (hi : i < s) (hq : zQok q) : ∃ J1, F_X0_move 14 (nI i) q J = some J1 ∧ zVe (zMv w i q) (zW 14 J1) ∧ zFrC J J1 := by
  obtain ⟨J1, e, v1, a, b⟩ := t_move zC14 v g hi hq
  exact ⟨J1, e, v1, a, fun p hp => b p (by omega) (by omega)⟩
theorem t_dint (v : zVe w (zW 14 J)) (h4 : w 0 4 = nI s) (hs : s ≤ 8) (ht : w 0 3 = nI t) (htn : t < n) (hC : zTxC E n (J.2 2) (J.2 3)) : ∃ J1, F_X0_din 14 J = some (zDin E w t s, J1) ∧ zFrC J J1 ∧ zVe w (zW 14 J1) := by
  obtain ⟨J1, e, f⟩ := t_din zC14 v h4 hs ht htn hC
  exact ⟨J1, e, f.fr (Or.inr rfl), veW (fun b _ _ => f.2 b (by omega) (by omega)) v⟩
theorem t_moved (g : zGoodV w s) (ht : w 0 3 = nI t) (htn : t < n) (c : zCx E n w J) (hi : i < s) (hq : zQok q) : ∃ J1, F_X6_dinMoved (nI i) q J = some (zDin E (zMv w i q) t s, J1) ∧ zFrC J J1 := by
  obtain ⟨J1, e1, v1, f1⟩ := t_now c
  obtain ⟨J2, e2, v2, f2⟩ := t_mvt v1 g hi hq
  have c2 := (c.fr f1).fr f2
  obtain ⟨J3, e3, f3, _⟩ := t_dint (s := s) (t := t) v2 ((congrFun (zMv_0 (by omega)) 4).trans g.2.1) g.1 ((congrFun (zMv_0 (by omega)) 3).trans ht) htn c2.2
  refine ⟨J3, ?_, (f1.tr f2).tr f3⟩
  unfold F_X6_dinMoved
  rw [e1, Option.bind_some, e2, Option.bind_some, e3]
  rfl
theorem zXc_0 (h : r < 4) : zXc w i j r = w r := by
  unfold zXc
  rw [zMv_0 h, zMv_0 h, zMv_0 h]
theorem zXc_4 {p : Nat} : zXc w i j 4 p = if p = i then w 4 j else if p = j then w 4 i else w 4 p := by
  unfold zXc
  rw [zMv_4, zMv_4, zMv_4]
  by_cases h : p = i
  · rw [if_pos h, if_pos h]
  · rw [if_neg h, if_neg h, if_neg h]
theorem zXc_5 (hij : i ≠ j) {k : Nat} (hk : k < 24) : zXc w i j 5 k = if nI k = w 4 j then nI i else if nI k = w 4 i then nI j else w 5 k := by
  unfold zXc
  rw [zMv_5, zMv_4, if_neg hij, zMv_4, if_pos rfl, if_neg (i_nm1 (by omega) : ¬ nI k = -1), zMv_5, zMv_4, if_neg (Ne.symm hij), zMv_5, if_neg (i_nm1 (by omega) : ¬ nI k = -1)]
  by_cases h1 : nI k = w 4 j
  · rw [if_pos h1, if_pos h1]
  · rw [if_neg h1, if_neg h1, if_neg h1]
    by_cases h2 : nI k = w 4 i
    · rw [if_pos h2, if_pos h2]
    · rw [if_neg h2, if_neg h2, if_neg h2]
theorem zXc_ok (g : zGoodV w s) (hi : i < s) (hj : j < s) (si : w 4 i ≠ -1) (sj : w 4 j ≠ -1) : zOpen (zMv w i (-1)) j (w 4 i) ∧ zGoodV (zMv (zMv w i (-1)) j (w 4 i)) s ∧ zOpen (zMv (zMv w i (-1)) j (w 4 i)) i (w 4 j) ∧ zGoodV (zXc w i j) s := by
  have h8 := g.1
  have g1 := zMv_good (q := -1) g hi (Or.inl rfl)
  obtain ⟨k, hk, ek, ek5⟩ := ((g.2.2.1 i hi).2.2.2).resolve_left si
  obtain ⟨m, hm, em, em5⟩ := ((g.2.2.1 j hj).2.2.2).resolve_left sj
  have o1 : zOpen (zMv w i (-1)) j (w 4 i) := by
    refine Or.inr ⟨k, hk, ek, Or.inl ?_⟩
    rw [zMv_5, if_neg (i_nm1 (by omega)), if_pos ek.symm]
  have g2 := zMv_good g1 hj o1
  have o2 : zOpen (zMv (zMv w i (-1)) j (w 4 i)) i (w 4 j) := by
    refine Or.inr ⟨m, hm, em, ?_⟩
    rw [zMv_5]
    by_cases h1 : nI m = w 4 i
    · rw [if_pos h1]
      right
      have := i_inj (by omega) (by omega) (h1.trans ek)
      subst this
      exact em5.symm.trans ek5
    · have hji : j ≠ i := fun e => h1 (by rw [← e]; exact em.symm)
      rw [if_neg h1, if_pos (by rw [zMv_4, if_neg hji]; exact em.symm)]
      exact Or.inl rfl
  exact ⟨o1, g2, o2, zMv_good g2 hi o2⟩
theorem t_exch (v : zVe w (zW 14 J)) (g : zGoodV w s) (hi : i < s) (hj : j < s) (si : w 4 i ≠ -1) (sj : w 4 j ≠ -1) : ∃ J1, F_X0_exchange 14 (nI i) (nI j) J = some J1 ∧ zVe (zXc w i j) (zW 14 J1) ∧ zFrC J J1 := by
  obtain ⟨o1, g2, o2, g3⟩ := zXc_ok g hi hj si sj
  obtain ⟨J1, e1, v1, f1⟩ := t_mvt (q := -1) v g hi (Or.inl rfl)
  obtain ⟨J2, e2, v2, f2⟩ := t_mvt (q := w 4 i) v1 (zMv_good g hi (Or.inl rfl)) hj o1.ok
  obtain ⟨J3, e3, v3, f3⟩ := t_mvt (q := w 4 j) v2 g2 hi o2.ok
  refine ⟨J3, ?_, v3, (f1.tr f2).tr f3⟩
  unfold F_X0_exchange
  rw [if_pos (co_kd zC14), cw_seatOf zC14, zVe_seat v, zSeat_nI g hi, Option.bind_some, cw_seatOf zC14, zVe_seat v, zSeat_nI g hj, Option.bind_some]
  dsimp only
  rw [e1, Option.bind_some, e2, Option.bind_some, e3]
  rfl
theorem t_changed (g : zGoodV w s) (ht : w 0 3 = nI t) (htn : t < n) (c : zCx E n w J) (hi : i < s) (hj : j < s) (si : w 4 i ≠ -1) (sj : w 4 j ≠ -1) : ∃ J1, F_X6_dinChanged (nI i) (nI j) J = some (zDin E (zXc w i j) t s, J1) ∧ zFrC J J1 := by
  obtain ⟨J1, e1, v1, f1⟩ := t_now c
  obtain ⟨J2, e2, v2, f2⟩ := t_exch v1 g hi hj si sj
  have c2 := (c.fr f1).fr f2
  obtain ⟨J3, e3, f3, _⟩ := t_dint (s := s) (t := t) v2 ((congrFun (zXc_0 (by omega)) 4).trans g.2.1) g.1 ((congrFun (zXc_0 (by omega)) 3).trans ht) htn c2.2
  refine ⟨J3, ?_, (f1.tr f2).tr f3⟩
  unfold F_X6_dinChanged
  rw [e1, Option.bind_some, e2, Option.bind_some, e3]
  rfl
theorem zXc_self (g : zGoodV w s) (hi : i < s) (si : w 4 i ≠ -1) : zVe (zXc w i i) w := by
  obtain ⟨o1, g2, o2, g3⟩ := zXc_ok g hi hi si si
  have a1 := zMv_mv (q2 := w 4 i) g2 hi o2
  have a2 : zVe (zMv (zMv w i (-1)) i (w 4 i)) (zMv w i (w 4 i)) := zMv_mv g hi (Or.inl rfl)
  have a3 := zMv_own g hi
  refine zVe.tr (w' := zMv (zMv w i (-1)) i (w 4 i)) ?_ (a2.tr a3)
  have b1 : zVe (zXc w i i) (zMv (zMv (zMv w i (-1)) i (w 4 i)) i (w 4 i)) := zVe.rf
  have e4 : (zMv (zMv w i (-1)) i (w 4 i)) 4 i = w 4 i := by rw [zMv_4, if_pos rfl]
  have b2 := zMv_own g2 hi
  rw [e4] at b2
  exact b1.tr b2
theorem zXc_back (g : zGoodV w s) (hi : i < s) (hj : j < s) (hij : i ≠ j) (si : w 4 i ≠ -1) (sj : w 4 j ≠ -1) : zVe (zXc (zXc w i j) i j) w := by
  have h8 := g.1
  refine ⟨fun k _ _ => by rw [zXc_0 (by omega), zXc_0 (by omega)], fun r h1 h2 p hp => ?_, fun k hk => ?_⟩
  · by_cases h4 : r = 4
    · subst h4
      rw [zXc_4, zXc_4, zXc_4, zXc_4, if_pos rfl, if_neg (Ne.symm hij), if_pos rfl]
      by_cases h : p = i
      · rw [if_pos h, h]
      · rw [if_neg h]
        by_cases h3 : p = j
        · rw [if_pos h3, h3]
        · rw [if_neg h3, if_neg h, if_neg h3]
    · rw [zXc_0 (by omega), zXc_0 (by omega)]
  · rw [zXc_5 hij hk, zXc_4, zXc_4, if_pos rfl, if_neg (Ne.symm hij), if_pos rfl, zXc_5 hij hk]
    by_cases h1 : nI k = w 4 i
    · rw [if_pos h1]
      exact zMv_back g hi h1.symm hk
    · rw [if_neg h1]
      by_cases h2 : nI k = w 4 j
      · rw [if_pos h2]
        exact zMv_back g hj h2.symm hk
      · rw [if_neg h2, if_neg h2, if_neg h1]
theorem m_swaps (g : zGoodV w s) (ti : zTieV J w s) (hi : i < s) (hj : j < s) (hij : i ≠ j) (si : w 4 i ≠ -1) (sj : w 4 j ≠ -1) : ∃ J1, F_X7_swaps (nI i) (nI j) J = some J1 ∧ zTieV J1 (zXc w i j) s ∧ J1.1 = J.1 ∧ ∀ b, b ≠ 53 → b ≠ 54 → J1.2 b = J.2 b := by
  have h8 := g.1
  obtain ⟨k, hk, ek, ek5⟩ := ((g.2.2.1 i hi).2.2.2).resolve_left si
  obtain ⟨m, hm, em, em5⟩ := ((g.2.2.1 j hj).2.2.2).resolve_left sj
  have hxi : zzIx (nI i) 8 := i_ix (by omega) (by omega)
  have hci : (nI i).toNatClampNeg = i := i_cm (by omega)
  have hxj : zzIx (nI j) 8 := i_ix (by omega) (by omega)
  have hcj : (nI j).toNatClampNeg = j := i_cm (by omega)
  have ei : J.2 53 i = nI k := (ti.1 i hi).2.2.2.trans ek
  have ej : J.2 53 j = nI m := (ti.1 j hj).2.2.2.trans em
  refine ⟨wI (wI (wI (wI J 53 i (nI m)) 53 j (nI k)) 54 k (nI j)) 54 m (nI i), ?_, ?_, rfl, fun b h1 h2 => by rw [wI_ne h2, wI_ne h2, wI_ne h1, wI_ne h1]⟩
  · unfold F_X7_swaps
    simp only [if_pos hxi, if_pos hxj, hci, hcj, ei, ej, if_pos (i_ix (show k < 24 from hk) (by omega)), if_pos (i_ix (show m < 24 from hm) (by omega)), i_cm (show k < 2147483648 by omega), i_cm (show m < 2147483648 by omega)]
  · have o : ∀ b, b ≠ 53 → b ≠ 54 → (wI (wI (wI (wI J 53 i (nI m)) 53 j (nI k)) 54 k (nI j)) 54 m (nI i)).2 b = J.2 b := fun b h1 h2 => by rw [wI_ne h2, wI_ne h2, wI_ne h1, wI_ne h1]
    refine ⟨fun p hp => ?_, fun q hq => ?_, ?_, ?_, ?_, ?_⟩
    · rw [o 50 (by omega) (by omega), o 51 (by omega) (by omega), o 52 (by omega) (by omega), wI_ne (by omega), wI_ne (by omega), wI_g, wI_g, zXc_0 (by omega), zXc_0 (by omega), zXc_0 (by omega), zXc_4, em, ek]
      refine ⟨(ti.1 p hp).1, (ti.1 p hp).2.1, (ti.1 p hp).2.2.1, ?_⟩
      by_cases h1 : p = i
      · rw [if_pos h1, if_neg (by omega), if_pos h1]
      · rw [if_neg h1, if_neg h1]
        by_cases h2 : p = j
        · rw [if_pos h2, if_pos h2]
        · rw [if_neg h2, if_neg h2]; exact (ti.1 p hp).2.2.2
    · rw [wI_g, wI_g, wI_ne (by omega), wI_ne (by omega), zXc_5 hij hq, em, ek]
      by_cases h1 : q = m
      · rw [if_pos h1, if_pos (by rw [h1])]
      · rw [if_neg h1, if_neg (fun e => h1 (i_inj (by omega) (by omega) e))]
        by_cases h2 : q = k
        · rw [if_pos h2, if_pos (by rw [h2])]
        · rw [if_neg h2, if_neg (fun e => h2 (i_inj (by omega) (by omega) e))]; exact ti.2.1 q hq
    · rw [o 46 (by omega) (by omega), zXc_0 (by omega)]; exact ti.2.2.1
    · rw [o 46 (by omega) (by omega), zXc_0 (by omega)]; exact ti.2.2.2.1
    · rw [o 46 (by omega) (by omega), zXc_0 (by omega)]; exact ti.2.2.2.2.1
    · rw [o 46 (by omega) (by omega), zXc_0 (by omega)]; exact ti.2.2.2.2.2
theorem m_looks (g : zGoodV w s) (ht : w 0 3 = nI t) (htn : t < n) (c : zRx E n s w J) (hi : i < s) (hj : j < s) (hij : i ≠ j) (si : w 4 i ≠ -1) (sj : w 4 j ≠ -1) : ∃ J1, F_X7_looksAt (nI i) (nI j) J = some J1 ∧ zRx E n s w J1 ∧ zFrR J J1 ∧ J1.2 46 35 = (if zDin E (zXc w i j) t s < J.2 46 36 then 10 * nI i + nI j else J.2 46 35) ∧ J1.2 46 36 = if zDin E (zXc w i j) t s < J.2 46 36 then zDin E (zXc w i j) t s else J.2 46 36 := by
  have h8 := g.1
  have g1 := (zXc_ok g hi hj si sj).2.2.2
  obtain ⟨J1, e1, t1, a1, b1⟩ := m_swaps g c.1 hi hj hij si sj
  have f1 : zFrR J J1 := zFrR.mv a1 b1
  obtain ⟨J2, e2, l2⟩ := r_din g1 t1 (E := E) (n := n) (t := t) (by rw [b1 47 (by omega) (by omega), b1 48 (by omega) (by omega)]; exact c.2) ((congrFun (zXc_0 (by omega)) 3).trans ht) htn
  have si' : zXc w i j 4 i ≠ -1 := by rw [zXc_4, if_pos rfl]; exact sj
  have sj' : zXc w i j 4 j ≠ -1 := by rw [zXc_4, if_neg (Ne.symm hij), if_pos rfl]; exact si
  obtain ⟨J3, e3, t3, a3, b3⟩ := m_swaps g1 (l2.tie t1) hi hj hij si' sj'
  have t3' : zTieV J3 w s := zVe_tie (zXc_back g hi hj hij si sj) h8 t3
  have f3 : zFrR J J3 := (f1.tr l2.fr).tr (zFrR.mv a3 b3)
  have p35 : J3.2 46 35 = J.2 46 35 := by rw [b3 46 (by omega) (by omega), l2.2.1 35 (by omega), b1 46 (by omega) (by omega)]
  have p36 : J3.2 46 36 = J.2 46 36 := by rw [b3 46 (by omega) (by omega), l2.2.1 36 (by omega), b1 46 (by omega) (by omega)]
  have c3 : zRx E n s w J3 := c.fr f3 t3'
  unfold F_X7_looksAt
  rw [e1, Option.bind_some, e2, Option.bind_some, e3, Option.bind_some, p36]
  dsimp only
  by_cases hD : zDin E (zXc w i j) t s < J.2 46 36
  · rw [if_pos hD, if_pos hD, if_pos hD]
    have f4 : zFrR J3 (wI (wI J3 46 35 (10 * nI i + nI j)) 46 36 (zDin E (zXc w i j) t s)) := (zFrR.wr (by omega)).tr (zFrR.wr (by omega))
    refine ⟨_, rfl, c3.fr f4 (tieJ (fun b _ _ => by rw [wI_ne (by omega), wI_ne (by omega)]) (fun k hk => by rw [wI_g, if_neg (by omega), wI_g, if_neg (by omega)]) t3'), f3.tr f4, ?_, ?_⟩
    · rw [wI_g, if_neg (by omega), wI_g, if_pos rfl]
    · rw [wI_g, if_pos rfl]
  · rw [if_neg hD, if_neg hD, if_neg hD]
    exact ⟨J3, rfl, c3, f3, p35, p36⟩
end TR
