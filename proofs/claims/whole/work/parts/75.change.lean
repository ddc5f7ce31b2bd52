/-! change, watch -/
/-- of all (a, b) with C the first at which D is least, if less than l -/
def zSeI (C : Nat → Nat → Prop) [∀ a b, Decidable (C a b)] (D : Nat → Nat → Int32) (a : Nat) : Nat → Nat → Int32 → Int32 → Int32 × Int32
  | _, 0, f, l => (f, l)
  | b, e + 1, f, l => if C a b ∧ D a b < l then zSeI C D a (b + 1) e (10 * nI a + nI b) (D a b) else zSeI C D a (b + 1) e f l
def zSeO (C : Nat → Nat → Prop) [∀ a b, Decidable (C a b)] (D : Nat → Nat → Int32) (st : Nat → Nat) (s : Nat) : Nat → Nat → Int32 → Int32 → Int32 × Int32
  | _, 0, f, l => (f, l)
  | a, e + 1, f, l => zSeO C D st s (a + 1) e (zSeI C D a (st a) (s - st a) f l).1 (zSeI C D a (st a) (s - st a) f l).2
theorem zSeI_no {C : Nat → Nat → Prop} [∀ a b, Decidable (C a b)] {D : Nat → Nat → Int32} {a : Nat} (h : ∀ b, ¬ C a b) : ∀ (e b : Nat) (f l : Int32), zSeI C D a b e f l = (f, l) := by
  intro e
  induction e with
  | zero => intro b f l; rfl
  | succ e ih =>
    intro b f l
    rw [zSeI, if_neg (fun q => h b q.1)]
    exact ih _ _ _
section CH
variable {L : Nat} {xs : Nat → Int32} {E : zEv2} {s t n z : Nat} {J J1 J2 : zzJ} {w w' : zVw} {x y v q : Int32} {r i : Nat}
abbrev zCc (w : zVw) (a b : Nat) : Prop := w 4 a ≠ -1 ∧ w 4 b ≠ -1
theorem t_change41 (g : zGoodV w s) (ht : w 0 3 = nI t) (htn : t < n) {J0 : zzJ} (c : zCx E n w J0) {a : Nat} (ha : a < s) (x f l : Int32) : ∃ J1, (fun kl => F_X6_change_41 kl 4096 x f l (nI a) (nI (a + 1)) J0) = (fun kl => kl x (zSeI (zCc w) (fun a b => zDin E (zXc w a b) t s) a (a + 1) (s - (a + 1)) f l).1 (zSeI (zCc w) (fun a b => zDin E (zXc w a b) t s) a (a + 1) (s - (a + 1)) f l).2 (nI (a + 1)) J1) ∧ zFrC J0 J1 := by
  have h8 := g.1
  generalize hT : zSeI (zCc w) (fun a b => zDin E (zXc w a b) t s) a (a + 1) (s - (a + 1)) f l = T
  refine zLoop (G := fun fu (p : Nat × Int32 × Int32 × zzJ) => fun kl => F_X6_change_41 kl fu x p.2.1 p.2.2.1 (nI a) (nI p.1) p.2.2.2) (P := fun k p => p.1 = k ∧ a < k ∧ zSeI (zCc w) (fun a b => zDin E (zXc w a b) t s) a k (s - k) p.2.1 p.2.2.1 = T ∧ zFrC J0 p.2.2.2) (Q := fun r => ∃ J1, r = (fun kl => kl x T.1 T.2 (nI (a + 1)) J1) ∧ zFrC J0 J1) (s := s) ?_ (s - (a + 1)) (a + 1) (a + 1, f, l, J0) (by omega) ⟨rfl, by omega, hT, zFrC.rf⟩ 4096 (by omega)
  rintro k ⟨k2, f', l', J'⟩ hk ⟨rfl, hak, hP, fr⟩
  dsimp only at hk hP fr ⊢
  have c' := c.fr fr
  have hm : J'.2 7 4 = nI s := (c'.1.1 4 (by omega) (by omega)).trans g.2.1
  by_cases h : k2 < s
  · right
    have sa : F_X0_sits 7 (nI a) J' = some (zOne (¬ w 4 a = -1), J') := by rw [cw_sits zC7, zVe_seat c'.1, zSeat_nI g ha]
    have sb : F_X0_sits 7 (nI k2) J' = some (zOne (¬ w 4 k2 = -1), J') := by rw [cw_sits zC7, zVe_seat c'.1, zSeat_nI g h]
    rw [show s - k2 = (s - (k2 + 1)) + 1 by omega, zSeI] at hP
    by_cases hC : zCc w a k2
    · obtain ⟨J3, e3, f3⟩ := t_changed g ht htn c' ha h hC.1 hC.2
      by_cases hD : zDin E (zXc w a k2) t s < l'
      · rw [if_pos ⟨hC, hD⟩] at hP
        refine ⟨h, (k2 + 1, 10 * nI a + nI k2, zDin E (zXc w a k2) t s, J3), ⟨rfl, by omega, hP, fr.tr f3⟩, fun fu => ?_⟩
        funext kl
        rw [F_X6_change_41, hm, if_pos ((i_lts (by omega) (by omega)).2 h), sa, Option.bind_some, zOne_t hC.1]
        refine (if_neg n10).trans ?_
        dsimp only
        rw [sb, Option.bind_some, zOne_t hC.2]
        refine (if_neg n10).trans ?_
        dsimp only
        rw [e3, Option.bind_some]
        unfold F_X6_change_89
        dsimp only
        rw [if_pos hD, ← nI_succ]
      · rw [if_neg (fun q => hD q.2)] at hP
        refine ⟨h, (k2 + 1, f', l', J3), ⟨rfl, by omega, hP, fr.tr f3⟩, fun fu => ?_⟩
        funext kl
        rw [F_X6_change_41, hm, if_pos ((i_lts (by omega) (by omega)).2 h), sa, Option.bind_some, zOne_t hC.1]
        refine (if_neg n10).trans ?_
        dsimp only
        rw [sb, Option.bind_some, zOne_t hC.2]
        refine (if_neg n10).trans ?_
        dsimp only
        rw [e3, Option.bind_some]
        unfold F_X6_change_89
        dsimp only
        rw [if_neg hD, ← nI_succ]
    · rw [if_neg (fun q => hC q.1)] at hP
      refine ⟨h, (k2 + 1, f', l', J'), ⟨rfl, by omega, hP, fr⟩, fun fu => ?_⟩
      funext kl
      have e88 : F_X6_change_88 kl (F_X6_change_41 kl fu) x f' l' (nI a) (nI k2) J' = F_X6_change_41 kl fu x f' l' (nI a) (nI (k2 + 1)) J' := by
        unfold F_X6_change_88 F_X6_change_89
        rw [if_neg (by rw [i_lt]; omega), ← nI_succ]
      rw [F_X6_change_41, hm, if_pos ((i_lts (by omega) (by omega)).2 h), sa, Option.bind_some]
      by_cases h1 : w 4 a = -1
      · rw [zOne_f (fun q => q h1)]
        exact (if_pos rfl).trans e88
      · rw [zOne_t h1]
        refine (if_neg n10).trans ?_
        dsimp only
        rw [sb, Option.bind_some, zOne_f (fun q => hC ⟨h1, q⟩)]
        exact (if_pos rfl).trans e88
  · left
    rw [show s - k2 = 0 by omega] at hP
    refine ⟨_, ⟨J', by rw [← hP], fr⟩, fun fu => ?_⟩
    funext kl
    rw [F_X6_change_41, hm, if_neg (fun q => h ((i_lts (by omega) (by omega)).1 q)), ← nI_succ]
    rfl
theorem t_change23 (g : zGoodV w s) (ht : w 0 3 = nI t) (htn : t < n) {J0 : zzJ} (c : zCx E n w J0) (x f l : Int32) : ∃ J1, F_X6_change_23 4096 x f l 0 J0 = some (if x = 0 then (zSeO (zCc w) (fun a b => zDin E (zXc w a b) t s) (fun a => a + 1) s 0 s f l).1 else (zSeO (zCc w) (fun a b => zDin E (zXc w a b) t s) (fun a => a + 1) s 0 s f l).2, J1) ∧ zFrC J0 J1 := by
  have h8 := g.1
  generalize hT : zSeO (zCc w) (fun a b => zDin E (zXc w a b) t s) (fun a => a + 1) s 0 s f l = T
  refine zLoop (G := fun fu (p : Nat × Int32 × Int32 × zzJ) => F_X6_change_23 fu x p.2.1 p.2.2.1 (nI p.1) p.2.2.2) (P := fun k p => p.1 = k ∧ zSeO (zCc w) (fun a b => zDin E (zXc w a b) t s) (fun a => a + 1) s k (s - k) p.2.1 p.2.2.1 = T ∧ zFrC J0 p.2.2.2) (Q := fun r => ∃ J1, r = some (if x = 0 then T.1 else T.2, J1) ∧ zFrC J0 J1) (s := s) ?_ s 0 (0, f, l, J0) (by omega) ⟨rfl, hT, zFrC.rf⟩ 4096 (by omega)
  rintro k ⟨k2, f', l', J'⟩ hk ⟨rfl, hP, fr⟩
  dsimp only at hk hP fr ⊢
  have c' := c.fr fr
  have hm : J'.2 7 4 = nI s := (c'.1.1 4 (by omega) (by omega)).trans g.2.1
  by_cases h : k2 < s
  · right
    rw [show s - k2 = (s - (k2 + 1)) + 1 by omega, zSeO] at hP
    obtain ⟨J3, e3, f3⟩ := t_change41 g ht htn c' h x f' l'
    refine ⟨h, (k2 + 1, _, _, J3), ⟨rfl, hP, fr.tr f3⟩, fun fu => ?_⟩
    rw [F_X6_change_23, hm, if_pos ((i_lts (by omega) (by omega)).2 h), ← nI_succ]
    exact congrFun e3 _
  · left
    rw [show s - k2 = 0 by omega] at hP
    refine ⟨_, ⟨J', rfl, fr⟩, fun fu => ?_⟩
    rw [F_X6_change_23, hm, if_neg (fun q => h ((i_lts (by omega) (by omega)).1 q)), ← hP]
    show _ = some (if x = 0 then f' else l', J')
    split <;> rfl
theorem m_change40 (g : zGoodV w s) (ht : w 0 3 = nI t) (htn : t < n) {J0 : zzJ} (c : zRx E n s w J0) {a : Nat} (ha : a < s) (x f l : Int32) (h35 : J0.2 46 35 = f) (h36 : J0.2 46 36 = l) : ∃ J1, (fun kl => F_X7_change_40 kl 4096 x (nI a) (nI (a + 1)) J0) = (fun kl => kl x (nI (a + 1)) J1) ∧ zRx E n s w J1 ∧ zFrR J0 J1 ∧ (J1.2 46 35, J1.2 46 36) = zSeI (zCc w) (fun a b => zDin E (zXc w a b) t s) a (a + 1) (s - (a + 1)) f l := by
  have h8 := g.1
  generalize hT : zSeI (zCc w) (fun a b => zDin E (zXc w a b) t s) a (a + 1) (s - (a + 1)) f l = T
  refine zLoop (G := fun fu (p : Nat × zzJ) => fun kl => F_X7_change_40 kl fu x (nI a) (nI p.1) p.2) (P := fun k p => p.1 = k ∧ a < k ∧ zSeI (zCc w) (fun a b => zDin E (zXc w a b) t s) a k (s - k) (p.2.2 46 35) (p.2.2 46 36) = T ∧ zRx E n s w p.2 ∧ zFrR J0 p.2) (Q := fun r => ∃ J1, r = (fun kl => kl x (nI (a + 1)) J1) ∧ zRx E n s w J1 ∧ zFrR J0 J1 ∧ (J1.2 46 35, J1.2 46 36) = T) (s := s) ?_ (s - (a + 1)) (a + 1) (a + 1, J0) (by omega) ⟨rfl, by omega, by rw [h35, h36]; exact hT, c, zFrR.rf⟩ 4096 (by omega)
  rintro k ⟨k2, J'⟩ hk ⟨rfl, hak, hP, c', fr⟩
  dsimp only at hk hP c' fr ⊢
  have hm := r_many g c'.1
  by_cases h : k2 < s
  · right
    have hxa : zzIx (nI a) 8 := i_ix (by omega) (by omega)
    have hca : (nI a).toNatClampNeg = a := i_cm (by omega)
    have hxk : zzIx (nI k2) 8 := i_ix (by omega) (by omega)
    have hck : (nI k2).toNatClampNeg = k2 := i_cm (by omega)
    have sa : J'.2 53 a = w 4 a := (c'.1.1 a ha).2.2.2
    have sb : J'.2 53 k2 = w 4 k2 := (c'.1.1 k2 h).2.2.2
    rw [show s - k2 = (s - (k2 + 1)) + 1 by omega, zSeI] at hP
    by_cases hC : zCc w a k2
    · obtain ⟨J3, e3, c3, f3, p35, p36⟩ := m_looks g ht htn c' ha h (by omega) hC.1 hC.2
      refine ⟨h, (k2 + 1, J3), ⟨rfl, by omega, ?_, c3, fr.tr f3⟩, fun fu => ?_⟩
      · dsimp only
        rw [p35, p36]
        by_cases hD : zDin E (zXc w a k2) t s < J'.2 46 36
        · rw [if_pos ⟨hC, hD⟩] at hP
          rw [if_pos hD, if_pos hD]
          exact hP
        · rw [if_neg (fun q => hD q.2)] at hP
          rw [if_neg hD, if_neg hD]
          exact hP
      · funext kl
        rw [F_X7_change_40, hm, if_pos ((i_lts (by omega) (by omega)).2 h)]
        simp only [if_pos hxa, if_pos hxk, hca, hck, sa, sb, if_neg hC.1, if_neg hC.2]
        rw [e3, Option.bind_some, ← nI_succ]
    · rw [if_neg (fun q => hC q.1)] at hP
      refine ⟨h, (k2 + 1, J'), ⟨rfl, by omega, hP, c', fr⟩, fun fu => ?_⟩
      funext kl
      rw [F_X7_change_40, hm, if_pos ((i_lts (by omega) (by omega)).2 h)]
      simp only [if_pos hxa, if_pos hxk, hca, hck, sa, sb]
      rw [← nI_succ]
      by_cases h1 : w 4 a = -1
      · rw [if_pos h1]
      · rw [if_neg h1, if_pos (Classical.byContradiction fun q => hC ⟨h1, q⟩)]
  · left
    rw [show s - k2 = 0 by omega] at hP
    refine ⟨_, ⟨J', rfl, c', fr, hP⟩, fun fu => ?_⟩
    funext kl
    rw [F_X7_change_40, hm, if_neg (fun q => h ((i_lts (by omega) (by omega)).1 q)), ← nI_succ]
theorem m_change28 (g : zGoodV w s) (ht : w 0 3 = nI t) (htn : t < n) {J0 : zzJ} (c : zRx E n s w J0) (x f l : Int32) (h35 : J0.2 46 35 = f) (h36 : J0.2 46 36 = l) : ∃ J1, F_X7_change_28 4096 x 0 J0 = some (if x = 0 then (zSeO (zCc w) (fun a b => zDin E (zXc w a b) t s) (fun a => a + 1) s 0 s f l).1 else (zSeO (zCc w) (fun a b => zDin E (zXc w a b) t s) (fun a => a + 1) s 0 s f l).2, J1) ∧ zRx E n s w J1 ∧ zFrR J0 J1 := by
  have h8 := g.1
  generalize hT : zSeO (zCc w) (fun a b => zDin E (zXc w a b) t s) (fun a => a + 1) s 0 s f l = T
  refine zLoop (G := fun fu (p : Nat × zzJ) => F_X7_change_28 fu x (nI p.1) p.2) (P := fun k p => p.1 = k ∧ zSeO (zCc w) (fun a b => zDin E (zXc w a b) t s) (fun a => a + 1) s k (s - k) (p.2.2 46 35) (p.2.2 46 36) = T ∧ zRx E n s w p.2 ∧ zFrR J0 p.2) (Q := fun r => ∃ J1, r = some (if x = 0 then T.1 else T.2, J1) ∧ zRx E n s w J1 ∧ zFrR J0 J1) (s := s) ?_ s 0 (0, J0) (by omega) ⟨rfl, by rw [h35, h36]; exact hT, c, zFrR.rf⟩ 4096 (by omega)
  rintro k ⟨k2, J'⟩ hk ⟨rfl, hP, c', fr⟩
  dsimp only at hk hP c' fr ⊢
  have hm := r_many g c'.1
  by_cases h : k2 < s
  · right
    rw [show s - k2 = (s - (k2 + 1)) + 1 by omega, zSeO] at hP
    obtain ⟨J3, e3, c3, f3, p3⟩ := m_change40 g ht htn c' h x _ _ rfl rfl
    refine ⟨h, (k2 + 1, J3), ⟨rfl, ?_, c3, fr.tr f3⟩, fun fu => ?_⟩
    · dsimp only
      rw [← hP, ← p3]
    · rw [F_X7_change_28, hm, if_pos ((i_lts (by omega) (by omega)).2 h), ← nI_succ]
      exact congrFun e3 _
  · left
    rw [show s - k2 = 0 by omega] at hP
    refine ⟨_, ⟨J', rfl, c', fr⟩, fun fu => ?_⟩
    rw [F_X7_change_28, hm, if_neg (fun q => h ((i_lts (by omega) (by omega)).1 q)), ← hP]
    show _ = some (if x = 0 then J'.2 46 35 else J'.2 46 36, J')
    split <;> rfl
theorem b_01 : F_X6_isZeroOrOne x J = some (zOne (0 ≤ x.toInt ∧ x.toInt ≤ 1), J) := by
  unfold F_X6_isZeroOrOne zOne
  by_cases h : 0 ≤ x.toInt ∧ x.toInt ≤ 1
  · obtain ⟨k, hk, rfl⟩ := i_upto (x := x) (m := 1) h (by omega)
    rw [if_pos h]
    rcases (show k = 0 ∨ k = 1 by omega) with rfl | rfl <;> rfl
  · rw [if_neg h, if_neg (fun e => h (by rw [e]; decide)), if_neg (fun e => h (by rw [e]; decide))]
theorem zFrR.tie2 {u v : Int32} (ti : zTieV J w s) : zTieV (wI (wI J 46 35 u) 46 36 v) w s := tieJ (fun b _ _ => by rw [wI_ne (by omega), wI_ne (by omega)]) (fun k hk => by rw [wI_g, if_neg (by omega), wI_g, if_neg (by omega)]) ti
theorem tie1 {k : Nat} {u : Int32} (hk : 14 < k) (ti : zTieV J w s) : zTieV (wI J 46 k u) w s := tieJ (fun b _ _ => by rw [wI_ne (by omega)]) (fun k hk => by rw [wI_g, if_neg (by omega)]) ti
theorem c_change (I : zInv L xs E s t n z J) : zAns L xs (F_X6_change x) (F_X7_change x) J := by
  obtain ⟨g, h8, ht, htn, h4, hC, hR⟩ := inv_d I
  by_cases hx : 0 ≤ x.toInt ∧ x.toInt ≤ 1
  · have c : zCx E n (zW 7 J) J := ⟨zVe.rf, hC⟩
    obtain ⟨J1, e1, s1⟩ := t_din zC7 c.1 g.2.1 h8 ht htn hC
    obtain ⟨J2, e2, f2⟩ := t_change23 g ht htn (c.fr (s1.fr (Or.inl rfl))) x (-1) (zDin E (zW 7 J) t s)
    have eC : F_X6_change x J = F_X6_change_23 4096 x (-1) (zDin E (zW 7 J) t s) 0 J1 := by
      unfold F_X6_change
      rw [b_01, Option.bind_some, zOne_t hx]
      refine (if_neg n10).trans ?_
      dsimp only
      rw [e1, Option.bind_some]
    refine zAns.q I _ ⟨J2, eC.trans e2, (s1.fr (Or.inl rfl)).tr f2⟩ (fun J1 I1 ti => ?_)
    · have c0 : zRx E n s (zW 7 J) J1 := ⟨ti, (inv_d I1).2.2.2.2.2.2⟩
      have fa : zFrR J1 (wI J1 46 35 (-1)) := zFrR.wr (by omega)
      have ca := c0.fr fa (tie1 (by omega) ti)
      obtain ⟨J3, e3, l3⟩ := r_din g ca.1 ca.2 ht htn
      have cb := ca.lo l3
      have fb : zFrR J3 (wI J3 46 36 (zDin E (zW 7 J) t s)) := zFrR.wr (by omega)
      have cc := cb.fr fb (tie1 (by omega) cb.1)
      obtain ⟨J4, e4, c4, f4⟩ := m_change28 g ht htn cc x (-1) (zDin E (zW 7 J) t s) (by rw [wI_g, if_neg (by omega), l3.2.1 35 (by omega), wI_g, if_pos rfl]) (by rw [wI_g, if_pos rfl])
      refine ⟨J4, ?_, ((fa.tr l3.fr).tr fb).tr f4, c4.1⟩
      unfold F_X7_change
      rw [b_inI, Option.bind_some, zOne_t (by exact hx)]
      refine (if_neg n10).trans ?_
      dsimp only
      rw [e3, Option.bind_some]
      exact e4
  · refine zAns.no (v := -2) I ?_ ?_
    · unfold F_X6_change
      rw [b_01, Option.bind_some, zOne_f hx]
      exact if_pos rfl
    · unfold F_X7_change
      rw [b_inI, Option.bind_some, zOne_f (by exact hx)]
      exact if_pos rfl
end CH
