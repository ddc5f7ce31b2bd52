/-! stop, front -/
def zFf (w : zVw) (fr : Nat) : Nat → Nat → Int32
  | _, 0 => -1
  | i, e + 1 => if w 5 ((fr + i) % 24) = -1 then nI ((fr + i) % 24) else zFf w fr (i + 1) e
section SP
variable {L : Nat} {xs : Nat → Int32} {E : zEv2} {s t n z : Nat} {J J1 J2 : zzJ} {w w' : zVw} {x y v off : Int32} {a r i : Nat} {st : zS5}
theorem rem24 {k : Nat} (hk : k < 1000) : zRem (nI k) 24 = nI (k % 24) := pk_rem (d := 24) (by omega) (by omega) (by omega)
theorem t_free {fr : Nat} (ha : zCoach a) (v : zVe w (zW a J)) (hf : fr < 100) : F_X0_firstFreeFrom a (nI fr) J = some (zFf w fr 0 24, J) := by
  generalize hT : zFf w fr 0 24 = T
  refine zLoop (G := fun fu (p : Nat) => F_X0_firstFreeFrom_2 fu a (nI fr) (nI p) J) (P := fun k p => p = k ∧ zFf w fr k (24 - k) = T) (Q := fun r => r = some (T, J)) (s := 24) ?_ 24 0 0 (by omega) ⟨rfl, hT⟩ 4096 (by omega)
  rintro k k2 hk ⟨rfl, hP⟩
  by_cases h : k2 < 24
  · rw [show 24 - k2 = (24 - (k2 + 1)) + 1 by omega, zFf] at hP
    have e : F_X0_sitterAt a (zRem (nI fr + nI k2) 24) J = some (w 5 ((fr + k2) % 24), J) := by
      rw [nI_add, rem24 (by omega), cw_sitterAt ha, zVe_sit v]
      congr 2
      exact zIt_nI (by omega) (by omega)
    by_cases hw : w 5 ((fr + k2) % 24) = -1
    · left
      rw [if_pos hw] at hP
      refine ⟨_, rfl, fun fu => ?_⟩
      rw [F_X0_firstFreeFrom_2, if_pos ((i_lt24 (by omega)).2 h), if_pos (co_kd ha), e, Option.bind_some]
      dsimp only
      rw [if_pos hw, nI_add, rem24 (by omega), hP]
    · right
      rw [if_neg hw] at hP
      refine ⟨h, k2 + 1, ⟨rfl, hP⟩, fun fu => ?_⟩
      rw [F_X0_firstFreeFrom_2, if_pos ((i_lt24 (by omega)).2 h), if_pos (co_kd ha), e, Option.bind_some]
      dsimp only
      rw [if_neg hw, ← nI_succ]
  · left
    rw [show 24 - k2 = 0 by omega] at hP
    refine ⟨_, rfl, fun fu => ?_⟩
    rw [F_X0_firstFreeFrom_2, if_neg (fun q => h ((i_lt24 (by omega)).1 q)), ← hP]
    rfl
theorem zFf_ge (w : zVw) : ∀ (e i : Nat), i + e ≤ 24 → zFf w 0 i e = -1 ∨ ∃ k, i ≤ k ∧ k < 24 ∧ zFf w 0 i e = nI k ∧ w 5 k = -1 := by
  intro e
  induction e with
  | zero => intro i _; exact Or.inl rfl
  | succ e ih =>
    intro i hi
    rw [zFf, Nat.zero_add, Nat.mod_eq_of_lt (by omega)]
    by_cases h : w 5 i = -1
    · rw [if_pos h]
      exact Or.inr ⟨i, Nat.le_refl _, by omega, rfl, h⟩
    · rw [if_neg h]
      exact (ih (i + 1) (by omega)).imp id (fun ⟨k, a, b, c, d⟩ => ⟨k, by omega, b, c, d⟩)
/-- the first free seat of row 0 -/
def zF4 (w : zVw) : Int32 := if w 5 0 = -1 then nI 0 else if w 5 1 = -1 then nI 1 else if w 5 2 = -1 then nI 2 else if w 5 3 = -1 then nI 3 else -1
theorem zF4_or (w : zVw) : zF4 w = -1 ∨ ∃ k, k < 24 ∧ zF4 w = nI k ∧ w 5 k = -1 := by
  unfold zF4
  by_cases h0 : w 5 0 = -1
  · rw [if_pos h0]; exact Or.inr ⟨0, by omega, rfl, h0⟩
  · rw [if_neg h0]
    by_cases h1 : w 5 1 = -1
    · rw [if_pos h1]; exact Or.inr ⟨1, by omega, rfl, h1⟩
    · rw [if_neg h1]
      by_cases h2 : w 5 2 = -1
      · rw [if_pos h2]; exact Or.inr ⟨2, by omega, rfl, h2⟩
      · rw [if_neg h2]
        by_cases h3 : w 5 3 = -1
        · rw [if_pos h3]; exact Or.inr ⟨3, by omega, rfl, h3⟩
        · rw [if_neg h3]; exact Or.inl rfl
theorem t_inFront (ha : zCoach a) (v : zVe w (zW a J)) : F_X0_firstFreeInFront a J = some (zF4 w, J) := by
  have e := t_free (fr := 0) ha v (by omega)
  unfold F_X0_firstFreeInFront
  rw [if_pos (co_kd ha)]
  have e' : F_X0_firstFreeFrom a 0 J = some (zFf w 0 0 24, J) := e
  rw [e', Option.bind_some]
  dsimp only
  have q : zFf w 0 0 24 = if w 5 0 = -1 then nI 0 else if w 5 1 = -1 then nI 1 else if w 5 2 = -1 then nI 2 else if w 5 3 = -1 then nI 3 else zFf w 0 4 20 := rfl
  unfold zF4
  rw [q]
  by_cases h0 : w 5 0 = -1
  · rw [if_pos h0, if_pos h0]; rfl
  · rw [if_neg h0, if_neg h0]
    by_cases h1 : w 5 1 = -1
    · rw [if_pos h1, if_pos h1]; rfl
    · rw [if_neg h1, if_neg h1]
      by_cases h2 : w 5 2 = -1
      · rw [if_pos h2, if_pos h2]; rfl
      · rw [if_neg h2, if_neg h2]
        by_cases h3 : w 5 3 = -1
        · rw [if_pos h3, if_pos h3]; rfl
        · rw [if_neg h3, if_neg h3]
          rcases zFf_ge w 20 4 (by omega) with h | ⟨k, hk, hk2, h, _⟩
          · rw [h]; rfl
          · rw [h, if_neg (by rw [i_lt, i_nI (by omega)]; show ¬ (k : Int) < 4; omega)]
theorem t_stop44 {b : Nat} (hb : b ≤ 60) (hs : s ≤ 8) {q : Nat → Nat → Int32} {lim : Int32} {J0 : zzJ} (p : zPl J0 q lim b s) (x l : Int32) : ∃ J1, F_X6_stop_44 4096 (nI b) x (-1) l 0 J0 = some (if x = 0 then (zSl (fun _ => True) (fun k => (zRun q lim s (nI k) 0 b zS0).2.2.2.1) 0 b (-1) l).1 else (zSl (fun _ => True) (fun k => (zRun q lim s (nI k) 0 b zS0).2.2.2.1) 0 b (-1) l).2, J1) ∧ zFrC J0 J1 := by
  generalize hT : zSl (fun _ => True) (fun k => (zRun q lim s (nI k) 0 b zS0).2.2.2.1) 0 b (-1) l = R
  refine zLoop (G := fun fu (p : Nat × Int32 × Int32 × zzJ) => F_X6_stop_44 fu (nI b) x p.2.1 p.2.2.1 (nI p.1) p.2.2.2) (P := fun k p => p.1 = k ∧ zSl (fun _ => True) (fun k => (zRun q lim s (nI k) 0 b zS0).2.2.2.1) k (b - k) p.2.1 p.2.2.1 = R ∧ zPl p.2.2.2 q lim b s ∧ zFrC J0 p.2.2.2) (Q := fun r => ∃ J1, r = some (if x = 0 then R.1 else R.2, J1) ∧ zFrC J0 J1) (s := b) ?_ b 0 (0, -1, l, J0) (by omega) ⟨rfl, hT, p, zFrC.rf⟩ 4096 (by omega)
  rintro k ⟨k2, f', l', J'⟩ hk ⟨rfl, hP, p', fr⟩
  dsimp only at hk hP p' fr ⊢
  by_cases h : k2 < b
  · right
    rw [show b - k2 = (b - (k2 + 1)) + 1 by omega, zSl] at hP
    obtain ⟨J3, e3, r3, p3, f3⟩ := t_sick7 (off := nI k2) hb hs p'
    by_cases hD : (zRun q lim s (nI k2) 0 b zS0).2.2.2.1 < l'
    · rw [if_pos ⟨trivial, hD⟩] at hP
      refine ⟨h, (k2 + 1, nI k2, _, J3), ⟨rfl, hP, p3, fr.tr f3⟩, fun fu => ?_⟩
      rw [F_X6_stop_44, if_pos ((i_lts (by omega) (by omega)).2 h), e3, Option.bind_some]
      dsimp only
      rw [if_pos hD, ← nI_succ]
    · rw [if_neg (fun q => hD q.2)] at hP
      refine ⟨h, (k2 + 1, f', l', J3), ⟨rfl, hP, p3, fr.tr f3⟩, fun fu => ?_⟩
      rw [F_X6_stop_44, if_pos ((i_lts (by omega) (by omega)).2 h), e3, Option.bind_some]
      dsimp only
      rw [if_neg hD, ← nI_succ]
  · left
    rw [show b - k2 = 0 by omega] at hP
    refine ⟨_, ⟨J', rfl, fr⟩, fun fu => ?_⟩
    rw [F_X6_stop_44, if_neg (fun q => h ((i_lts (by omega) (by omega)).1 q)), ← hP]
    show _ = some (if x = 0 then f' else l', J')
    split <;> rfl
theorem m_stop46 {b : Nat} (hb : b ≤ 60) (g : zGoodV w s) (ht : w 0 3 = nI t) (htn : t < n) {J0 : zzJ} (c : zRx E n s w J0) (x l : Int32) (h35 : J0.2 46 35 = -1) (h36 : J0.2 46 36 = l) : ∃ J1, F_X7_stop_46 4096 (nI b) x 0 J0 = some (if x = 0 then (zSl (fun _ => True) (fun k => (zRs E w t s (nI k) b).2.2.2.1) 0 b (-1) l).1 else (zSl (fun _ => True) (fun k => (zRs E w t s (nI k) b).2.2.2.1) 0 b (-1) l).2, J1) ∧ zRx E n s w J1 ∧ zFrR J0 J1 := by
  generalize hT : zSl (fun _ => True) (fun k => (zRs E w t s (nI k) b).2.2.2.1) 0 b (-1) l = R
  refine zLoop (G := fun fu (p : Nat × zzJ) => F_X7_stop_46 fu (nI b) x (nI p.1) p.2) (P := fun k p => p.1 = k ∧ zSl (fun _ => True) (fun k => (zRs E w t s (nI k) b).2.2.2.1) k (b - k) (p.2.2 46 35) (p.2.2 46 36) = R ∧ zRx E n s w p.2 ∧ zFrR J0 p.2) (Q := fun r => ∃ J1, r = some (if x = 0 then R.1 else R.2, J1) ∧ zRx E n s w J1 ∧ zFrR J0 J1) (s := b) ?_ b 0 (0, J0) (by omega) ⟨rfl, by rw [h35, h36]; exact hT, c, zFrR.rf⟩ 4096 (by omega)
  rintro k ⟨k2, J'⟩ hk ⟨rfl, hP, c', fr⟩
  dsimp only at hk hP c' fr ⊢
  by_cases h : k2 < b
  · right
    rw [show b - k2 = (b - (k2 + 1)) + 1 by omega, zSl] at hP
    obtain ⟨J3, e3, c3, f3, r3⟩ := m_rides (off := nI k2) hb g ht htn c'
    have p33 : J3.2 46 33 = (zRs E w t s (nI k2) b).2.2.2.1 := r3.2.2.2.1
    have p35 : J3.2 46 35 = J'.2 46 35 := f3.2 35 (by omega)
    have p36 : J3.2 46 36 = J'.2 46 36 := f3.2 36 (by omega)
    have q33 : (wI J3 46 35 (nI k2)).2 46 33 = (zRs E w t s (nI k2) b).2.2.2.1 := by rw [wI_g, if_neg (by omega)]; exact p33
    by_cases hD : (zRs E w t s (nI k2) b).2.2.2.1 < J'.2 46 36
    · rw [if_pos ⟨trivial, hD⟩] at hP
      refine ⟨h, (k2 + 1, wI (wI J3 46 35 (nI k2)) 46 36 (zRs E w t s (nI k2) b).2.2.2.1), ⟨rfl, ?_, zRx.w1 (by omega) (zRx.w1 (by omega) c3), ((fr.tr f3.1).tr (zFrR.wr (by omega))).tr (zFrR.wr (by omega))⟩, fun fu => ?_⟩
      · dsimp only
        rw [wI_g, if_neg (by omega), wI_g, if_pos rfl, wI_g, if_pos rfl]
        exact hP
      · rw [F_X7_stop_46, if_pos ((i_lts (by omega) (by omega)).2 h), e3, Option.bind_some, p33, p36, if_pos hD, q33, ← nI_succ]
    · rw [if_neg (fun q => hD q.2)] at hP
      refine ⟨h, (k2 + 1, J3), ⟨rfl, by dsimp only; rw [p35, p36]; exact hP, c3, fr.tr f3.1⟩, fun fu => ?_⟩
      rw [F_X7_stop_46, if_pos ((i_lts (by omega) (by omega)).2 h), e3, Option.bind_some, p33, p36, if_neg hD, ← nI_succ]
  · left
    rw [show b - k2 = 0 by omega] at hP
    refine ⟨_, ⟨J', rfl, c', fr⟩, fun fu => ?_⟩
    rw [F_X7_stop_46, if_neg (fun q => h ((i_lts (by omega) (by omega)).1 q)), ← hP]
    show _ = some (if x = 0 then J'.2 46 35 else J'.2 46 36, J')
    split <;> rfl
theorem c_stop (I : zInv L xs E s t n z J) : zAns L xs (F_X6_stop x y) (F_X7_stop x y) J := by
  obtain ⟨g, h8, ht, htn, h4, hC, hR⟩ := inv_d I
  by_cases hx : 0 ≤ x.toInt ∧ x.toInt ≤ 60
  · obtain ⟨b, hb, rfl⟩ := i_upto (x := x) (m := 60) hx (by omega)
    by_cases hy : 0 ≤ y.toInt ∧ y.toInt ≤ 1
    · have c : zCx E n (zW 7 J) J := ⟨zVe.rf, hC⟩
      obtain ⟨J1, e1, p1, f1⟩ := t_plan7 hb g ht htn c
      obtain ⟨J2, e2, r2, p2, f2⟩ := t_sick7 (off := -1) hb h8 p1
      obtain ⟨J3, e3, f3⟩ := t_stop44 hb h8 p2 y (zRs E (zW 7 J) t s (-1) b).2.2.2.1
      have eC : F_X6_stop (nI b) y J = F_X6_stop_44 4096 (nI b) y (-1) (zRs E (zW 7 J) t s (-1) b).2.2.2.1 0 J2 := by
        unfold F_X6_stop
        rw [b_isRide, Option.bind_some, zOne_t hx]
        refine (if_neg n10).trans ?_
        dsimp only
        rw [b_01, Option.bind_some, zOne_t hy]
        refine (if_neg n10).trans ?_
        dsimp only
        rw [e1, Option.bind_some, e2, Option.bind_some]
      refine zAns.q I _ ⟨J3, eC.trans e3, (f1.tr f2).tr f3⟩ (fun J1 I1 ti => ?_)
      obtain ⟨J4, e4, c4, f4, r4⟩ := m_rides (off := -1) hb g ht htn (⟨ti, (inv_d I1).2.2.2.2.2.2⟩ : zRx E n s (zW 7 J) J1)
      have q33 : (wI J4 46 35 (-1)).2 46 33 = (zRs E (zW 7 J) t s (-1) b).2.2.2.1 := by rw [wI_g, if_neg (by omega)]; exact r4.2.2.2.1
      obtain ⟨J5, e5, c5, f5⟩ := m_stop46 (J0 := wI (wI J4 46 35 (-1)) 46 36 (zRs E (zW 7 J) t s (-1) b).2.2.2.1) hb g ht htn (zRx.w1 (by omega) (zRx.w1 (by omega) c4)) y (zRs E (zW 7 J) t s (-1) b).2.2.2.1 (by rw [wI_g, if_neg (by omega), wI_g, if_pos rfl]) (by rw [wI_g, if_pos rfl])
      refine ⟨J5, ?_, ((f4.1.tr (zFrR.wr (by omega))).tr (zFrR.wr (by omega))).tr f5, c5.1⟩
      unfold F_X7_stop
      rw [b_inI, Option.bind_some, zOne_t (by exact hx)]
      refine (if_neg n10).trans ?_
      dsimp only
      rw [b_inI, Option.bind_some, zOne_t (by exact hy)]
      refine (if_neg n10).trans ?_
      dsimp only
      rw [e4, Option.bind_some, q33]
      exact e5
    · refine zAns.no (v := -2) I ?_ ?_
      · unfold F_X6_stop
        rw [b_isRide, Option.bind_some, zOne_t hx]
        refine (if_neg n10).trans ?_
        dsimp only
        rw [b_01, Option.bind_some, zOne_f hy]
        exact if_pos rfl
      · unfold F_X7_stop
        rw [b_inI, Option.bind_some, zOne_t (by exact hx)]
        refine (if_neg n10).trans ?_
        dsimp only
        rw [b_inI, Option.bind_some, zOne_f (by exact hy)]
        exact if_pos rfl
  · refine zAns.no (v := -2) I ?_ ?_
    · unfold F_X6_stop
      rw [b_isRide, Option.bind_some, zOne_f hx]
      exact if_pos rfl
    · unfold F_X7_stop
      rw [b_inI, Option.bind_some, zOne_f (by exact hx)]
      exact if_pos rfl
theorem t_moved3 {b : Nat} {q : Int32} (hb : b ≤ 60) (g : zGoodV w s) (ht : w 0 3 = nI t) (htn : t < n) (c : zCx E n w J) (hi : i < s) (hq : zQok q) : ∃ J1, F_X6_sickMoved (nI i) q (nI b) J = some ((zRs E (zMv w i q) t s (-1) b).2.2.2.1, J1) ∧ zFrC J J1 := by
  obtain ⟨J1, e1, v1, f1⟩ := t_now c
  obtain ⟨J2, e2, v2, f2⟩ := t_mvt v1 g hi hq
  have c2 := (c.fr f1).fr f2
  obtain ⟨J3, e3, p3, a3, o3⟩ := t_plan (E := E) (n := n) (w := zMv w i q) (Or.inr rfl) g.1 ((congrFun (zMv_0 (by omega)) 4).trans g.2.1) ((congrFun (zMv_0 (by omega)) 3).trans ht) htn hb v2 c2.2
  obtain ⟨J4, e4, r4, p4, f4⟩ := t_sick7 (off := -1) hb g.1 p3
  have f3 : zFrC J2 J3 := ⟨a3, fun k hk => o3 k (by omega) (by omega) (by omega) (by omega)⟩
  refine ⟨J4, ?_, ((f1.tr f2).tr f3).tr f4⟩
  unfold F_X6_sickMoved
  rw [e1, Option.bind_some, e2, Option.bind_some, e3, Option.bind_some, e4]
  rfl
abbrev zCf (w : zVw) (F : Int32) (k : Nat) : Prop := F ≠ -1 ∧ w 4 k ≠ -1
theorem zSl_no {C : Nat → Prop} [∀ k, Decidable (C k)] {D : Nat → Int32} (h : ∀ k, ¬ C k) : ∀ (e k : Nat) (f l : Int32), zSl C D k e f l = (f, l) := by
  intro e
  induction e with
  | zero => intro k f l; rfl
  | succ e ih =>
    intro k f l
    rw [zSl, if_neg (fun q => h k q.1)]
    exact ih _ _ _
theorem t_front53 {b : Nat} {F : Int32} (hb : b ≤ 60) (g : zGoodV w s) (ht : w 0 3 = nI t) (htn : t < n) (hF : zQok F) {J0 : zzJ} (c : zCx E n w J0) (x l : Int32) : ∃ J1, F_X6_front_53 4096 (nI b) x F (-1) l 0 J0 = some (if x = 0 then (zSl (zCf w F) (fun k => (zRs E (zMv w k F) t s (-1) b).2.2.2.1) 0 s (-1) l).1 else (zSl (zCf w F) (fun k => (zRs E (zMv w k F) t s (-1) b).2.2.2.1) 0 s (-1) l).2, J1) ∧ zFrC J0 J1 := by
  have h8 := g.1
  generalize hT : zSl (zCf w F) (fun k => (zRs E (zMv w k F) t s (-1) b).2.2.2.1) 0 s (-1) l = R
  refine zLoop (G := fun fu (p : Nat × Int32 × Int32 × zzJ) => F_X6_front_53 fu (nI b) x F p.2.1 p.2.2.1 (nI p.1) p.2.2.2) (P := fun k p => p.1 = k ∧ zSl (zCf w F) (fun k => (zRs E (zMv w k F) t s (-1) b).2.2.2.1) k (s - k) p.2.1 p.2.2.1 = R ∧ zFrC J0 p.2.2.2) (Q := fun r => ∃ J1, r = some (if x = 0 then R.1 else R.2, J1) ∧ zFrC J0 J1) (s := s) ?_ s 0 (0, -1, l, J0) (by omega) ⟨rfl, hT, zFrC.rf⟩ 4096 (by omega)
  rintro k ⟨k2, f', l', J'⟩ hk ⟨rfl, hP, fr⟩
  dsimp only at hk hP fr ⊢
  have c' := c.fr fr
  have hm : J'.2 7 4 = nI s := (c'.1.1 4 (by omega) (by omega)).trans g.2.1
  have out : F_X6_front_118 x f' l' J' = some (if x = 0 then f' else l', J') := by unfold F_X6_front_118; split <;> rfl
  by_cases h : k2 < s
  · by_cases hF1 : F = -1
    · left
      rw [zSl_no (fun k q => q.1 hF1)] at hP
      refine ⟨_, ⟨J', rfl, fr⟩, fun fu => ?_⟩
      rw [F_X6_front_53, hm, if_pos ((i_lts (by omega) (by omega)).2 h), if_pos hF1, out, ← hP]
    · right
      have sa : F_X0_sits 7 (nI k2) J' = some (zOne (¬ w 4 k2 = -1), J') := by rw [cw_sits zC7, zVe_seat c'.1, zSeat_nI g h]
      rw [show s - k2 = (s - (k2 + 1)) + 1 by omega, zSl] at hP
      by_cases hs : w 4 k2 = -1
      · rw [if_neg (fun q => q.1.2 hs)] at hP
        refine ⟨h, (k2 + 1, f', l', J'), ⟨rfl, hP, fr⟩, fun fu => ?_⟩
        rw [F_X6_front_53, hm, if_pos ((i_lts (by omega) (by omega)).2 h), if_neg hF1, sa, Option.bind_some, zOne_f (fun q => q hs)]
        refine (if_pos rfl).trans ?_
        unfold F_X6_front_95
        rw [if_neg (by rw [i_lt]; omega), ← nI_succ]
      · obtain ⟨J3, e3, f3⟩ := t_moved3 hb g ht htn c' h hF
        by_cases hD : (zRs E (zMv w k2 F) t s (-1) b).2.2.2.1 < l'
        · rw [if_pos ⟨⟨hF1, hs⟩, hD⟩] at hP
          refine ⟨h, (k2 + 1, nI k2, _, J3), ⟨rfl, hP, fr.tr f3⟩, fun fu => ?_⟩
          rw [F_X6_front_53, hm, if_pos ((i_lts (by omega) (by omega)).2 h), if_neg hF1, sa, Option.bind_some, zOne_t hs]
          refine (if_neg n10).trans ?_
          dsimp only
          rw [e3, Option.bind_some]
          unfold F_X6_front_95
          dsimp only
          rw [if_pos hD, ← nI_succ]
        · rw [if_neg (fun q => hD q.2)] at hP
          refine ⟨h, (k2 + 1, f', l', J3), ⟨rfl, hP, fr.tr f3⟩, fun fu => ?_⟩
          rw [F_X6_front_53, hm, if_pos ((i_lts (by omega) (by omega)).2 h), if_neg hF1, sa, Option.bind_some, zOne_t hs]
          refine (if_neg n10).trans ?_
          dsimp only
          rw [e3, Option.bind_some]
          unfold F_X6_front_95
          dsimp only
          rw [if_neg hD, ← nI_succ]
  · left
    rw [show s - k2 = 0 by omega] at hP
    refine ⟨_, ⟨J', rfl, fr⟩, fun fu => ?_⟩
    rw [F_X6_front_53, hm, if_neg (fun q => h ((i_lts (by omega) (by omega)).1 q)), out, ← hP]
    rfl
theorem m_front81 {b : Nat} {F : Int32} (hb : b ≤ 60) (g : zGoodV w s) (ht : w 0 3 = nI t) (htn : t < n) (hF : F = -1 ∨ ∃ k, k < 24 ∧ F = nI k ∧ w 5 k = -1) {J0 : zzJ} (c : zRx E n s w J0) (x l : Int32) (h35 : J0.2 46 35 = -1) (h36 : J0.2 46 36 = l) : ∃ J1, F_X7_front_81 4096 (nI b) x F 0 J0 = some (if x = 0 then (zSl (zCf w F) (fun k => (zRs E (zMv w k F) t s (-1) b).2.2.2.1) 0 s (-1) l).1 else (zSl (zCf w F) (fun k => (zRs E (zMv w k F) t s (-1) b).2.2.2.1) 0 s (-1) l).2, J1) ∧ zRx E n s w J1 ∧ zFrR J0 J1 := by
  have h8 := g.1
  generalize hT : zSl (zCf w F) (fun k => (zRs E (zMv w k F) t s (-1) b).2.2.2.1) 0 s (-1) l = R
  refine zLoop (G := fun fu (p : Nat × zzJ) => F_X7_front_81 fu (nI b) x F (nI p.1) p.2) (P := fun k p => p.1 = k ∧ zSl (zCf w F) (fun k => (zRs E (zMv w k F) t s (-1) b).2.2.2.1) k (s - k) (p.2.2 46 35) (p.2.2 46 36) = R ∧ zRx E n s w p.2 ∧ zFrR J0 p.2) (Q := fun r => ∃ J1, r = some (if x = 0 then R.1 else R.2, J1) ∧ zRx E n s w J1 ∧ zFrR J0 J1) (s := s) ?_ s 0 (0, J0) (by omega) ⟨rfl, by rw [h35, h36]; exact hT, c, zFrR.rf⟩ 4096 (by omega)
  rintro k ⟨k2, J'⟩ hk ⟨rfl, hP, c', fr⟩
  dsimp only at hk hP c' fr ⊢
  have hm := r_many g c'.1
  have out : F_X7_front_162 x J' = some (if x = 0 then J'.2 46 35 else J'.2 46 36, J') := by unfold F_X7_front_162; split <;> rfl
  by_cases h : k2 < s
  · by_cases hF1 : F = -1
    · left
      rw [zSl_no (fun k q => q.1 hF1)] at hP
      refine ⟨_, ⟨J', rfl, c', fr⟩, fun fu => ?_⟩
      rw [F_X7_front_81, hm, if_pos ((i_lts (by omega) (by omega)).2 h), if_pos hF1, out, ← hP]
    · right
      have hx : zzIx (nI k2) 8 := i_ix (by omega) (by omega)
      have hc8 : (nI k2).toNatClampNeg = k2 := i_cm (by omega)
      have sa : J'.2 53 k2 = w 4 k2 := (c'.1.1 k2 h).2.2.2
      rw [show s - k2 = (s - (k2 + 1)) + 1 by omega, zSl] at hP
      have start : ∀ fu, F_X7_front_81 (fu + 1) (nI b) x F (nI k2) J' = (if w 4 k2 = -1 then F_X7_front_81 fu (nI b) x F (nI (k2 + 1)) J' else (Option.bind (F_X7_seats (nI k2) F J') fun q6 => (Option.bind (F_X7_rides (nI b) (-1 : Int32) q6) fun q7 => (Option.bind (F_X7_seats (nI k2) (w 4 k2) q7) fun q8 => (if (q8.2 46 33) < (q8.2 46 36) then F_X7_front_81 fu (nI b) x F (nI (k2 + 1)) (wI (wI q8 46 35 (nI k2)) 46 36 ((wI q8 46 35 (nI k2)).2 46 33)) else F_X7_front_81 fu (nI b) x F (nI (k2 + 1)) q8))))) := by
        intro fu
        rw [F_X7_front_81, hm, if_pos ((i_lts (by omega) (by omega)).2 h), if_neg hF1, if_pos hx, ← nI_succ]
        simp only [hc8, sa]
      by_cases hs : w 4 k2 = -1
      · rw [if_neg (fun q => q.1.2 hs)] at hP
        refine ⟨h, (k2 + 1, J'), ⟨rfl, hP, c', fr⟩, fun fu => ?_⟩
        rw [start, if_pos hs]
      · have hop : zOpen w k2 F := hF.imp id (fun ⟨k, a, b, c⟩ => ⟨k, a, b, Or.inl c⟩)
        obtain ⟨J3, e3, t3, a3, b3⟩ := m_seats (q := F) g c'.1 h hop.ok
        have f3 : zFrR J' J3 := zFrR.mv a3 b3
        have c3 : zRx E n s (zMv w k2 F) J3 := ⟨t3, by rw [b3 47 (by omega) (by omega), b3 48 (by omega) (by omega)]; exact c'.2⟩
        have g3 := zMv_good g h hop
        obtain ⟨J4, e4, c4, f4, r4⟩ := m_rides (off := -1) (t := t) hb g3 ((congrFun (zMv_0 (by omega)) 3).trans ht) htn c3
        obtain ⟨J5, e5, t5, a5, b5⟩ := m_seats (q := w 4 k2) g3 c4.1 h (zOwn_open g h).ok
        have v5 : zVe (zMv (zMv w k2 F) k2 (w 4 k2)) w := (zMv_mv g h hop).tr (zMv_own g h)
        have f5 : zFrR J0 J5 := ((fr.tr f3).tr f4.1).tr (zFrR.mv a5 b5)
        have c5 : zRx E n s w J5 := c.fr f5 (zVe_tie v5 h8 t5)
        have p33 : J5.2 46 33 = (zRs E (zMv w k2 F) t s (-1) b).2.2.2.1 := by rw [b5 46 (by omega) (by omega)]; exact r4.2.2.2.1
        have p35 : J5.2 46 35 = J'.2 46 35 := by rw [b5 46 (by omega) (by omega), f4.2 35 (by omega), b3 46 (by omega) (by omega)]
        have p36 : J5.2 46 36 = J'.2 46 36 := by rw [b5 46 (by omega) (by omega), f4.2 36 (by omega), b3 46 (by omega) (by omega)]
        have q33 : (wI J5 46 35 (nI k2)).2 46 33 = (zRs E (zMv w k2 F) t s (-1) b).2.2.2.1 := by rw [wI_g, if_neg (by omega)]; exact p33
        by_cases hD : (zRs E (zMv w k2 F) t s (-1) b).2.2.2.1 < J'.2 46 36
        · rw [if_pos ⟨⟨hF1, hs⟩, hD⟩] at hP
          refine ⟨h, (k2 + 1, wI (wI J5 46 35 (nI k2)) 46 36 (zRs E (zMv w k2 F) t s (-1) b).2.2.2.1), ⟨rfl, ?_, zRx.w1 (by omega) (zRx.w1 (by omega) c5), (f5.tr (zFrR.wr (by omega))).tr (zFrR.wr (by omega))⟩, fun fu => ?_⟩
          · dsimp only
            rw [wI_g, if_neg (by omega), wI_g, if_pos rfl, wI_g, if_pos rfl]
            exact hP
          · rw [start, if_neg hs, e3, Option.bind_some, e4, Option.bind_some, e5, Option.bind_some, p33, p36, if_pos hD, q33]
        · rw [if_neg (fun q => hD q.2)] at hP
          refine ⟨h, (k2 + 1, J5), ⟨rfl, by dsimp only; rw [p35, p36]; exact hP, c5, f5⟩, fun fu => ?_⟩
          rw [start, if_neg hs, e3, Option.bind_some, e4, Option.bind_some, e5, Option.bind_some, p33, p36, if_neg hD]
  · left
    rw [show s - k2 = 0 by omega] at hP
    refine ⟨_, ⟨J', rfl, c', fr⟩, fun fu => ?_⟩
    rw [F_X7_front_81, hm, if_neg (fun q => h ((i_lts (by omega) (by omega)).1 q)), out, ← hP]
    rfl
theorem m_front49 {b : Nat} (g : zGoodV w s) (ti : zTieV J w s) (x : Int32) : F_X7_front_49 4096 (nI b) x (-1) 3 J = F_X7_front_81 4096 (nI b) x (zF4 w) 0 J := by
  have st : ∀ (fu k : Nat) (l : Int32), k < 24 → F_X7_front_49 (fu + 1) (nI b) x l (nI k) J = F_X7_front_49 fu (nI b) x (if w 5 k = -1 then nI k else l) (nI k + (-1)) J := by
    intro fu k l hk
    rw [F_X7_front_49, if_neg (by rw [i_lt, i_nI (by omega)]; show ¬ (k : Int) < 0; omega), if_pos (i_ix hk (by omega)), i_cm (by omega), ti.2.1 k hk]
    split <;> rfl
  show F_X7_front_49 (4095 + 1) (nI b) x (-1) (nI 3) J = _
  rw [st 4095 3 _ (by omega), pk_m1, show (4095 : Nat) = 4094 + 1 from rfl, st 4094 2 _ (by omega), pk_m1, show (4094 : Nat) = 4093 + 1 from rfl, st 4093 1 _ (by omega), pk_m1, show (4093 : Nat) = 4092 + 1 from rfl, st 4092 0 _ (by omega), show (4092 : Nat) = 4091 + 1 from rfl, F_X7_front_49, if_pos (by decide)]
  rfl
theorem c_front (I : zInv L xs E s t n z J) : zAns L xs (F_X6_front x y) (F_X7_front x y) J := by
  obtain ⟨g, h8, ht, htn, h4, hC, hR⟩ := inv_d I
  by_cases hx : 0 ≤ x.toInt ∧ x.toInt ≤ 60
  · obtain ⟨b, hb, rfl⟩ := i_upto (x := x) (m := 60) hx (by omega)
    by_cases hy : 0 ≤ y.toInt ∧ y.toInt ≤ 1
    · have c : zCx E n (zW 7 J) J := ⟨zVe.rf, hC⟩
      have hF := zF4_or (zW 7 J)
      have hFo : zQok (zF4 (zW 7 J)) := hF.imp id (fun ⟨k, a, b, _⟩ => ⟨k, a, b⟩)
      obtain ⟨J1, e1, p1, f1⟩ := t_plan7 hb g ht htn c
      obtain ⟨J2, e2, r2, p2, f2⟩ := t_sick7 (off := -1) hb h8 p1
      obtain ⟨J3, e3, f3⟩ := t_front53 hb g ht htn hFo ((c.fr f1).fr f2) y (zRs E (zW 7 J) t s (-1) b).2.2.2.1
      have eC : F_X6_front (nI b) y J = F_X6_front_53 4096 (nI b) y (zF4 (zW 7 J)) (-1) (zRs E (zW 7 J) t s (-1) b).2.2.2.1 0 J2 := by
        unfold F_X6_front
        rw [b_isRide, Option.bind_some, zOne_t hx]
        refine (if_neg n10).trans ?_
        dsimp only
        rw [b_01, Option.bind_some, zOne_t hy]
        refine (if_neg n10).trans ?_
        dsimp only
        rw [t_inFront zC7 (zVe.rf (w := zW 7 J)), Option.bind_some]
        dsimp only
        rw [e1, Option.bind_some, e2, Option.bind_some]
      refine zAns.q I _ ⟨J3, eC.trans e3, (f1.tr f2).tr f3⟩ (fun J1 I1 ti => ?_)
      obtain ⟨J4, e4, c4, f4, r4⟩ := m_rides (off := -1) hb g ht htn (⟨ti, (inv_d I1).2.2.2.2.2.2⟩ : zRx E n s (zW 7 J) J1)
      have q33 : (wI J4 46 35 (-1)).2 46 33 = (zRs E (zW 7 J) t s (-1) b).2.2.2.1 := by rw [wI_g, if_neg (by omega)]; exact r4.2.2.2.1
      have c5 : zRx E n s (zW 7 J) (wI (wI J4 46 35 (-1)) 46 36 (zRs E (zW 7 J) t s (-1) b).2.2.2.1) := zRx.w1 (by omega) (zRx.w1 (by omega) c4)
      obtain ⟨J5, e5, c5', f5⟩ := m_front81 (F := zF4 (zW 7 J)) hb g ht htn hF c5 y (zRs E (zW 7 J) t s (-1) b).2.2.2.1 (by rw [wI_g, if_neg (by omega), wI_g, if_pos rfl]) (by rw [wI_g, if_pos rfl])
      refine ⟨J5, ?_, ((f4.1.tr (zFrR.wr (by omega))).tr (zFrR.wr (by omega))).tr f5, c5'.1⟩
      unfold F_X7_front
      rw [b_inI, Option.bind_some, zOne_t (by exact hx)]
      refine (if_neg n10).trans ?_
      dsimp only
      rw [b_inI, Option.bind_some, zOne_t (by exact hy)]
      refine (if_neg n10).trans ?_
      dsimp only
      rw [e4, Option.bind_some, q33, m_front49 g c5.1]
      exact e5
    · refine zAns.no (v := -2) I ?_ ?_
      · unfold F_X6_front
        rw [b_isRide, Option.bind_some, zOne_t hx]
        refine (if_neg n10).trans ?_
        dsimp only
        rw [b_01, Option.bind_some, zOne_f hy]
        exact if_pos rfl
      · unfold F_X7_front
        rw [b_inI, Option.bind_some, zOne_t (by exact hx)]
        refine (if_neg n10).trans ?_
        dsimp only
        rw [b_inI, Option.bind_some, zOne_f (by exact hy)]
        exact if_pos rfl
  · refine zAns.no (v := -2) I ?_ ?_
    · unfold F_X6_front
      rw [b_isRide, Option.bind_some, zOne_f hx]
      exact if_pos rfl
    · unfold F_X7_front
      rw [b_inI, Option.bind_some, zOne_f (by exact hx)]
      exact if_pos rfl
end SP
