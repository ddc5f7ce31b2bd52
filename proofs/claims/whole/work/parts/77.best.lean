/-! best -/
def zBe (C : Nat → Prop) [∀ k, Decidable (C k)] (D : Nat → Int32) : Nat → Nat → Int32 → Int32 → Int32 × Int32
  | _, 0, f, l => (f, l)
  | k, e + 1, f, l => if C k ∧ (f = -1 ∨ D k < l) then zBe C D (k + 1) e (nI k) (D k) else zBe C D (k + 1) e f l
section BE
theorem i_lt24 {k : Nat} (hk : k < 4096) : nI k < (24 : Int32) ↔ k < 24 := i_lts (s := 24) hk (by omega)
variable {L : Nat} {xs : Nat → Int32} {E : zEv2} {s t n z : Nat} {J J1 J2 : zzJ} {w w' : zVw} {x y v q T : Int32} {r i : Nat}
abbrev zCo1 (w : zVw) (i k : Nat) : Prop := w 5 k = -1 ∨ w 5 k = nI i
theorem t_best29 (g : zGoodV w s) (ht : w 0 3 = nI t) (htn : t < n) {J0 : zzJ} (c : zCx E n w J0) (hi : i < s) (x : Int32) : ∃ J1, F_X6_best_29 4096 (nI i) x (-1) 0 0 J0 = some (if x = 0 then (zBe (zCo1 w i) (fun k => zDin E (zMv w i (nI k)) t s) 0 24 (-1) 0).1 else (zBe (zCo1 w i) (fun k => zDin E (zMv w i (nI k)) t s) 0 24 (-1) 0).2, J1) ∧ zFrC J0 J1 := by
  have h8 := g.1
  generalize hT : zBe (zCo1 w i) (fun k => zDin E (zMv w i (nI k)) t s) 0 24 (-1) 0 = R
  refine zLoop (G := fun fu (p : Nat × Int32 × Int32 × zzJ) => F_X6_best_29 fu (nI i) x p.2.1 p.2.2.1 (nI p.1) p.2.2.2) (P := fun k p => p.1 = k ∧ zBe (zCo1 w i) (fun k => zDin E (zMv w i (nI k)) t s) k (24 - k) p.2.1 p.2.2.1 = R ∧ zFrC J0 p.2.2.2) (Q := fun r => ∃ J1, r = some (if x = 0 then R.1 else R.2, J1) ∧ zFrC J0 J1) (s := 24) ?_ 24 0 (0, -1, 0, J0) (by omega) ⟨rfl, hT, zFrC.rf⟩ 4096 (by omega)
  rintro k ⟨k2, f', l', J'⟩ hk ⟨rfl, hP, fr⟩
  dsimp only at hk hP fr ⊢
  have c' := c.fr fr
  by_cases h : k2 < 24
  · right
    have so : F_X0_isOpen 7 (nI k2) (nI i) J' = some (zOne (zCo1 w i k2), J') := by
      rw [cw_isOpen zC7, zVe_sit c'.1]
      have : zSit w (nI k2) = w 5 k2 := zIt_nI (by omega) (by omega)
      rw [this]
    rw [show 24 - k2 = (24 - (k2 + 1)) + 1 by omega, zBe] at hP
    by_cases hC : zCo1 w i k2
    · obtain ⟨J3, e3, f3⟩ := t_moved (q := nI k2) g ht htn c' hi (Or.inr ⟨k2, h, rfl⟩)
      have start : ∀ fu, F_X6_best_29 (fu + 1) (nI i) x f' l' (nI k2) J' = (if f' = (-1 : Int32) then F_X6_best_29 fu (nI i) x (nI k2) (zDin E (zMv w i (nI k2)) t s) (nI (k2 + 1)) J3 else (if zDin E (zMv w i (nI k2)) t s < l' then F_X6_best_29 fu (nI i) x (nI k2) (zDin E (zMv w i (nI k2)) t s) (nI (k2 + 1)) J3 else F_X6_best_29 fu (nI i) x f' l' (nI (k2 + 1)) J3)) := by
        intro fu
        rw [F_X6_best_29, if_pos ((i_lt24 (by omega)).2 h), so, Option.bind_some, zOne_t hC]
        refine (if_neg n10).trans ?_
        dsimp only
        rw [e3, Option.bind_some, ← nI_succ]
      by_cases hD : f' = -1 ∨ zDin E (zMv w i (nI k2)) t s < l'
      · rw [if_pos ⟨hC, hD⟩] at hP
        refine ⟨h, (k2 + 1, nI k2, zDin E (zMv w i (nI k2)) t s, J3), ⟨rfl, hP, fr.tr f3⟩, fun fu => ?_⟩
        rw [start]
        by_cases h1 : f' = -1
        · rw [if_pos h1]
        · rw [if_neg h1, if_pos (hD.resolve_left h1)]
      · rw [if_neg (fun q => hD q.2)] at hP
        refine ⟨h, (k2 + 1, f', l', J3), ⟨rfl, hP, fr.tr f3⟩, fun fu => ?_⟩
        rw [start, if_neg (fun q => hD (Or.inl q)), if_neg (fun q => hD (Or.inr q))]
    · rw [if_neg (fun q => hC q.1)] at hP
      refine ⟨h, (k2 + 1, f', l', J'), ⟨rfl, hP, fr⟩, fun fu => ?_⟩
      rw [F_X6_best_29, if_pos ((i_lt24 (by omega)).2 h), so, Option.bind_some, zOne_f hC, ← nI_succ]
      exact if_pos rfl
  · left
    rw [show 24 - k2 = 0 by omega] at hP
    refine ⟨_, ⟨J', rfl, fr⟩, fun fu => ?_⟩
    rw [F_X6_best_29, if_neg (fun q => h ((i_lt24 (by omega)).1 q)), ← hP]
    show _ = some (if x = 0 then f' else l', J')
    split <;> rfl
theorem zCo1_mv {qc : Int32} {k : Nat} (g : zGoodV w s) (hi : i < s) (ho : zOpen w i qc) (hk : k < 24) : zCo1 w i k ↔ zCo1 (zMv w i qc) i k := by
  have h8 := g.1
  unfold zCo1
  rw [zMv_5]
  by_cases h1 : nI k = qc
  · rw [if_pos h1]
    refine ⟨fun _ => Or.inr rfl, fun _ => ?_⟩
    rcases ho with h | ⟨m, hm, e, h⟩
    · exact absurd (h1.trans h) (i_nm1 (by omega))
    · have := i_inj (by omega) (by omega) (h1.trans e)
      subst this
      exact h
  · rw [if_neg h1]
    by_cases h2 : nI k = w 4 i
    · rw [if_pos h2]
      exact ⟨fun _ => Or.inl rfl, fun _ => Or.inr (zMv_back g hi h2.symm hk)⟩
    · rw [if_neg h2]
theorem m_best41 (g : zGoodV w s) (ht : w 0 3 = nI t) (htn : t < n) {J0 : zzJ} (c : zRx E n s w J0) (hi : i < s) (x : Int32) (h35 : J0.2 46 35 = -1) (h36 : J0.2 46 36 = 0) : ∃ J1, F_X7_best_41 4096 (nI i) x (w 4 i) 0 J0 = some (if x = 0 then (zBe (zCo1 w i) (fun k => zDin E (zMv w i (nI k)) t s) 0 24 (-1) 0).1 else (zBe (zCo1 w i) (fun k => zDin E (zMv w i (nI k)) t s) 0 24 (-1) 0).2, J1) ∧ zTieV J1 w s ∧ zFrR J0 J1 := by
  have h8 := g.1
  generalize hT : zBe (zCo1 w i) (fun k => zDin E (zMv w i (nI k)) t s) 0 24 (-1) 0 = R
  refine zLoop (G := fun fu (p : Nat × zzJ) => F_X7_best_41 fu (nI i) x (w 4 i) (nI p.1) p.2) (P := fun k p => p.1 = k ∧ zBe (zCo1 w i) (fun k => zDin E (zMv w i (nI k)) t s) k (24 - k) (p.2.2 46 35) (p.2.2 46 36) = R ∧ (∃ qc, zOpen w i qc ∧ zRx E n s (zMv w i qc) p.2) ∧ zFrR J0 p.2) (Q := fun r => ∃ J1, r = some (if x = 0 then R.1 else R.2, J1) ∧ zTieV J1 w s ∧ zFrR J0 J1) (s := 24) ?_ 24 0 (0, J0) (by omega) ⟨rfl, by rw [h35, h36]; exact hT, ⟨w 4 i, zOwn_open g hi, zVe_tie (zMv_own g hi).sy h8 c.1, c.2⟩, zFrR.rf⟩ 4096 (by omega)
  rintro k ⟨k2, J'⟩ hk ⟨rfl, hP, ⟨qc, ho, c'⟩, fr⟩
  dsimp only at hk hP c' fr ⊢
  have gq := zMv_good g hi ho
  by_cases h : k2 < 24
  · right
    have hxk : zzIx (nI k2) 24 := i_ix (by omega) (by omega)
    have hck : (nI k2).toNatClampNeg = k2 := i_cm (by omega)
    have s5 : J'.2 54 k2 = (zMv w i qc) 5 k2 := c'.1.2.1 k2 h
    have hcm := zCo1_mv g hi ho h
    rw [show 24 - k2 = (24 - (k2 + 1)) + 1 by omega, zBe] at hP
    have start : ∀ fu, F_X7_best_41 (fu + 1) (nI i) x (w 4 i) (nI k2) J' = (if zMv w i qc 5 k2 = -1 then F_X7_best_70 (F_X7_best_41 fu) (nI i) x (w 4 i) (nI k2) J' else (if zMv w i qc 5 k2 = nI i then F_X7_best_70 (F_X7_best_41 fu) (nI i) x (w 4 i) (nI k2) J' else F_X7_best_41 fu (nI i) x (w 4 i) (nI k2 + 1) J')) := by
      intro fu
      rw [F_X7_best_41, if_pos ((i_lt24 (by omega)).2 h)]
      simp only [if_pos hxk, hck, s5]
    by_cases hC : zCo1 w i k2
    · have hok : zQok (nI k2) := Or.inr ⟨k2, h, rfl⟩
      obtain ⟨J3, e3, t3, a3, b3⟩ := m_seats (q := nI k2) gq c'.1 hi hok
      have hon : zOpen w i (nI k2) := Or.inr ⟨k2, h, rfl, hC⟩
      have t3' : zTieV J3 (zMv w i (nI k2)) s := zVe_tie (zMv_mv g hi ho) h8 t3
      have f3 : zFrR J' J3 := zFrR.mv a3 b3
      have R3 : zTxR E n (J3.2 47) (J3.2 48) := by rw [b3 47 (by omega) (by omega), b3 48 (by omega) (by omega)]; exact c'.2
      obtain ⟨J4, e4, l4⟩ := r_din (zMv_good g hi hon) t3' R3 (t := t) ((congrFun (zMv_0 (by omega)) 3).trans ht) htn
      have c4 : zRx E n s (zMv w i (nI k2)) J4 := ⟨l4.tie t3', l4.tx R3⟩
      have p35 : J4.2 46 35 = J'.2 46 35 := by rw [l4.2.1 35 (by omega), b3 46 (by omega) (by omega)]
      have p36 : J4.2 46 36 = J'.2 46 36 := by rw [l4.2.1 36 (by omega), b3 46 (by omega) (by omega)]
      have f4 : zFrR J0 J4 := (fr.tr f3).tr l4.fr
      have e70 : ∀ fu, F_X7_best_70 (F_X7_best_41 fu) (nI i) x (w 4 i) (nI k2) J' = (if J'.2 46 35 = -1 then F_X7_best_100 (F_X7_best_41 fu) (nI i) x (w 4 i) (nI k2) (zDin E (zMv w i (nI k2)) t s) J4 else (if zDin E (zMv w i (nI k2)) t s < J'.2 46 36 then F_X7_best_100 (F_X7_best_41 fu) (nI i) x (w 4 i) (nI k2) (zDin E (zMv w i (nI k2)) t s) J4 else F_X7_best_41 fu (nI i) x (w 4 i) (nI (k2 + 1)) J4)) := by
        intro fu
        unfold F_X7_best_70
        rw [e3, Option.bind_some, e4, Option.bind_some]
        dsimp only
        rw [p35, p36, ← nI_succ]
      have s70 : ∀ fu, F_X7_best_41 (fu + 1) (nI i) x (w 4 i) (nI k2) J' = F_X7_best_70 (F_X7_best_41 fu) (nI i) x (w 4 i) (nI k2) J' := by
        intro fu
        rw [start]
        rcases hcm.1 hC with q | q
        · rw [if_pos q]
        · by_cases q2 : zMv w i qc 5 k2 = -1
          · rw [if_pos q2]
          · rw [if_neg q2, if_pos q]
      by_cases hD : J'.2 46 35 = -1 ∨ zDin E (zMv w i (nI k2)) t s < J'.2 46 36
      · rw [if_pos ⟨hC, hD⟩] at hP
        have f5 : zFrR J4 (wI (wI J4 46 35 (nI k2)) 46 36 (zDin E (zMv w i (nI k2)) t s)) := (zFrR.wr (by omega)).tr (zFrR.wr (by omega))
        refine ⟨h, (k2 + 1, wI (wI J4 46 35 (nI k2)) 46 36 (zDin E (zMv w i (nI k2)) t s)), ⟨rfl, ?_, ⟨nI k2, hon, c4.fr f5 (zFrR.tie2 c4.1)⟩, f4.tr f5⟩, fun fu => ?_⟩
        · dsimp only
          rw [wI_g, if_neg (by omega), wI_g, if_pos rfl, wI_g, if_pos rfl]
          exact hP
        · rw [s70, e70]
          have e100 : F_X7_best_100 (F_X7_best_41 fu) (nI i) x (w 4 i) (nI k2) (zDin E (zMv w i (nI k2)) t s) J4 = F_X7_best_41 fu (nI i) x (w 4 i) (nI (k2 + 1)) (wI (wI J4 46 35 (nI k2)) 46 36 (zDin E (zMv w i (nI k2)) t s)) := by
            unfold F_X7_best_100
            rw [← nI_succ]
          rw [e100]
          by_cases h1 : J'.2 46 35 = -1
          · rw [if_pos h1]
          · rw [if_neg h1, if_pos (hD.resolve_left h1)]
      · rw [if_neg (fun q => hD q.2)] at hP
        refine ⟨h, (k2 + 1, J4), ⟨rfl, by dsimp only; rw [p35, p36]; exact hP, ⟨nI k2, hon, c4⟩, f4⟩, fun fu => ?_⟩
        rw [s70, e70, if_neg (fun q => hD (Or.inl q)), if_neg (fun q => hD (Or.inr q))]
    · rw [if_neg (fun q => hC q.1)] at hP
      refine ⟨h, (k2 + 1, J'), ⟨rfl, hP, ⟨qc, ho, c'⟩, fr⟩, fun fu => ?_⟩
      rw [start, if_neg (fun q => hC (hcm.2 (Or.inl q))), if_neg (fun q => hC (hcm.2 (Or.inr q))), ← nI_succ]
  · left
    rw [show 24 - k2 = 0 by omega] at hP
    obtain ⟨J3, e3, t3, a3, b3⟩ := m_seats (q := w 4 i) gq c'.1 hi (zOwn_open g hi).ok
    have v3 : zVe (zMv (zMv w i qc) i (w 4 i)) w := (zMv_mv g hi ho).tr (zMv_own g hi)
    refine ⟨_, ⟨J3, rfl, zVe_tie v3 h8 t3, fr.tr (zFrR.mv a3 b3)⟩, fun fu => ?_⟩
    rw [F_X7_best_41, if_neg (fun q => h ((i_lt24 (by omega)).1 q)), e3, Option.bind_some, b3 46 (by omega) (by omega), ← hP]
    show _ = some (if x = 0 then J'.2 46 35 else J'.2 46 36, J3)
    split <;> rfl
theorem c_best {one : Int32} (I : zInv L xs E s t n z J) : zAns L xs (F_X6_best one x) (F_X7_best one x) J := by
  obtain ⟨g, h8, ht, htn, h4, hC, hR⟩ := inv_d I
  by_cases ho : 0 ≤ one.toInt ∧ one.toInt < s
  · obtain ⟨i, hi, rfl⟩ := w_one g ho
    have hx8 : zzIx (nI i) 8 := i_ix (by omega) (by omega)
    have hc : (nI i).toNatClampNeg = i := i_cm (by omega)
    by_cases hx : 0 ≤ x.toInt ∧ x.toInt ≤ 1
    · have c : zCx E n (zW 7 J) J := ⟨zVe.rf, hC⟩
      obtain ⟨J2, e2, f2⟩ := t_best29 g ht htn c hi x
      have eC : F_X6_best (nI i) x J = F_X6_best_29 4096 (nI i) x (-1) 0 0 J := by
        unfold F_X6_best
        rw [c7_has I, Option.bind_some, zOne_t ho]
        refine (if_neg n10).trans ?_
        dsimp only
        rw [b_01, Option.bind_some, zOne_t hx]
        exact if_neg n10
      refine zAns.q I _ ⟨J2, eC.trans e2, f2⟩ (fun J1 I1 ti => ?_)
      have c0 : zRx E n s (zW 7 J) J1 := ⟨ti, (inv_d I1).2.2.2.2.2.2⟩
      have fa : zFrR J1 (wI (wI J1 46 35 (-1)) 46 36 0) := (zFrR.wr (by omega)).tr (zFrR.wr (by omega))
      obtain ⟨J4, e4, t4, f4⟩ := m_best41 g ht htn (c0.fr fa (zFrR.tie2 ti)) hi x (by rw [wI_g, if_neg (by omega), wI_g, if_pos rfl]) (by rw [wI_g, if_pos rfl])
      refine ⟨J4, ?_, fa.tr f4, t4⟩
      unfold F_X7_best
      rw [r_isOne g ti, Option.bind_some, zOne_t ho]
      refine (if_neg n10).trans ?_
      dsimp only
      rw [b_inI, Option.bind_some, zOne_t (by exact hx)]
      refine (if_neg n10).trans ((if_pos hx8).trans ?_)
      dsimp only
      rw [hc, (ti.1 i hi).2.2.2]
      exact e4
    · refine zAns.no (v := -2) I ?_ ?_
      · unfold F_X6_best
        rw [c7_has I, Option.bind_some, zOne_t ho]
        refine (if_neg n10).trans ?_
        dsimp only
        rw [b_01, Option.bind_some, zOne_f hx]
        exact if_pos rfl
      · unfold F_X7_best
        rw [r_isOne g I.2.1.2.1, Option.bind_some, zOne_t ho]
        refine (if_neg n10).trans ?_
        dsimp only
        rw [b_inI, Option.bind_some, zOne_f (by exact hx)]
        exact if_pos rfl
  · refine zAns.no (v := -2) I ?_ ?_
    · unfold F_X6_best
      rw [c7_has I, Option.bind_some, zOne_f ho]
      exact if_pos rfl
    · unfold F_X7_best
      rw [r_isOne g I.2.1.2.1, Option.bind_some, zOne_f ho]
      exact if_pos rfl
end BE
