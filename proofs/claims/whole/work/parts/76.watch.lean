/-! watch -/
section WA
variable {L : Nat} {xs : Nat → Int32} {E : zEv2} {s t n z : Nat} {J J1 J2 : zzJ} {w w' : zVw} {x y v q T : Int32} {r i : Nat}
theorem zFT_or : ∀ (k i : Nat), zFT w i k = -1 ∨ ∃ p, i ≤ p ∧ p < i + k ∧ zFT w i k = nI p ∧ ¬ zSeat w (nI p) = -1 := by
  intro k
  induction k with
  | zero => intro i; exact Or.inl rfl
  | succ k ih =>
    intro i
    rw [zFT]
    by_cases h : ¬ zSeat w (nI i) = -1 ∧ zTch w (nI i)
    · rw [if_pos h]
      exact Or.inr ⟨i, Nat.le_refl _, by omega, rfl, h.1⟩
    · rw [if_neg h]
      rcases ih (i + 1) with h1 | ⟨p, h1, h2, h3, h4⟩
      · exact Or.inl h1
      · exact Or.inr ⟨p, by omega, by omega, h3, h4⟩
theorem zPair_sy : ∀ a, a < 24 → ∀ b, b < 24 → (zPair (nI a) = nI b ↔ zPair (nI b) = nI a) ∧ (zCross (nI a) = nI b ↔ zCross (nI b) = nI a) := by decide +kernel
theorem nxt_sits {b : Nat} (g : zGoodV w s) (hb : b < s) (h : zNxt w (nI b) y) : w 4 b ≠ -1 := by
  intro e
  obtain ⟨h1, h2⟩ := h
  rw [zSeat_nI g hb, e] at h2
  rcases h2 with h2 | h2
  · exact h1 (h2.symm.trans rfl)
  · exact h1 (h2.symm.trans rfl)
theorem nxt_sy {b p : Nat} (g : zGoodV w s) (hb : b < s) (hp : p < s) (sp : w 4 p ≠ -1) : zNxt w (nI b) (nI p) ↔ zNxt w (nI p) (nI b) := by
  have h8 := g.1
  unfold zNxt
  rw [zSeat_nI g hb, zSeat_nI g hp]
  obtain ⟨m, hm, em, _⟩ := ((g.2.2.1 p hp).2.2.2).resolve_left sp
  rcases (g.2.2.1 b hb).2.2.2 with h | ⟨k, hk, ek, _⟩
  · rw [h, em]
    constructor
    · rintro ⟨_, h1 | h1⟩ <;> exact absurd (h1.symm.trans rfl) (i_nm1 (by omega))
    · rintro ⟨h1, _⟩; exact absurd rfl h1
  · rw [ek, em]
    have q := zPair_sy k hk m hm
    rw [q.1, q.2]
    exact ⟨fun h => ⟨i_nm1 (by omega), h.2⟩, fun h => ⟨i_nm1 (by omega), h.2⟩⟩
abbrev zCw (w : zVw) (T : Int32) (a b : Nat) : Prop := (a ≠ b ∧ w 4 a ≠ -1 ∧ ¬ w 1 a = 5) ∧ zNxt w (nI b) T
theorem t_watch78 (g : zGoodV w s) (ht : w 0 3 = nI t) (htn : t < n) {J0 : zzJ} (c : zCx E n w J0) {a : Nat} (ha : a < s) (x f l : Int32) (hl : ¬ zDin E w t s < l) (s1 : w 4 a ≠ -1) (s2 : ¬ w 1 a = 5) : ∃ J1, (fun kl => F_X6_watch_78 kl 4096 x T f l (nI a) 1 0 J0) = (fun kl => kl x T (zSeI (zCw w T) (fun a b => zDin E (zXc w a b) t s) a 0 s f l).1 (zSeI (zCw w T) (fun a b => zDin E (zXc w a b) t s) a 0 s f l).2 (nI (a + 1)) J1) ∧ zFrC J0 J1 ∧ ¬ zDin E w t s < (zSeI (zCw w T) (fun a b => zDin E (zXc w a b) t s) a 0 s f l).2 := by
  have h8 := g.1
  generalize hT : zSeI (zCw w T) (fun a b => zDin E (zXc w a b) t s) a 0 s f l = R
  refine zLoop (G := fun fu (p : Nat × Int32 × Int32 × zzJ) => fun kl => F_X6_watch_78 kl fu x T p.2.1 p.2.2.1 (nI a) 1 (nI p.1) p.2.2.2) (P := fun k p => p.1 = k ∧ zSeI (zCw w T) (fun a b => zDin E (zXc w a b) t s) a k (s - k) p.2.1 p.2.2.1 = R ∧ zFrC J0 p.2.2.2 ∧ ¬ zDin E w t s < p.2.2.1) (Q := fun r => ∃ J1, r = (fun kl => kl x T R.1 R.2 (nI (a + 1)) J1) ∧ zFrC J0 J1 ∧ ¬ zDin E w t s < R.2) (s := s) ?_ s 0 (0, f, l, J0) (by omega) ⟨rfl, hT, zFrC.rf, hl⟩ 4096 (by omega)
  rintro k ⟨k2, f', l', J'⟩ hk ⟨rfl, hP, fr, hl'⟩
  dsimp only at hk hP fr hl' ⊢
  have c' := c.fr fr
  have hm : J'.2 7 4 = nI s := (c'.1.1 4 (by omega) (by omega)).trans g.2.1
  by_cases h : k2 < s
  · right
    have sb : F_X0_areBeside 7 (nI k2) T J' = some (zOne (zNxt w (nI k2) T), J') := by rw [cw_areBeside zC7, zVe_nxt c'.1]
    rw [show s - k2 = (s - (k2 + 1)) + 1 by omega, zSeI] at hP
    have start : ∀ (fu : Nat) (kl : Int32 → Int32 → Int32 → Int32 → Int32 → zzJ → Option (Int32 × zzJ)), F_X6_watch_78 kl (fu + 1) x T f' l' (nI a) 1 (nI k2) J' = (if zOne (zNxt w (nI k2) T) = 0 then F_X6_watch_121 kl (F_X6_watch_78 kl fu) x T f' l' (nI a) 1 (nI k2) l' J' else (Option.bind (F_X6_dinChanged (nI a) (nI k2) J') fun q6 => F_X6_watch_121 kl (F_X6_watch_78 kl fu) x T f' l' (nI a) 1 (nI k2) q6.1 q6.2)) := by
      intro fu kl
      rw [F_X6_watch_78, hm, if_pos ((i_lts (by omega) (by omega)).2 h), if_neg n10, sb, Option.bind_some]
    by_cases hN : zNxt w (nI k2) T
    · obtain ⟨J3, e3, f3⟩ := t_changed g ht htn c' ha h s1 (nxt_sits g h hN)
      by_cases hC : zCw w T a k2 ∧ zDin E (zXc w a k2) t s < l'
      · rw [if_pos hC] at hP
        refine ⟨h, (k2 + 1, 10 * nI a + nI k2, zDin E (zXc w a k2) t s, J3), ⟨rfl, hP, fr.tr f3, ?_⟩, fun fu => ?_⟩
        · have := hC.2
          rw [i_lt] at this hl' ⊢
          dsimp only
          omega
        · funext kl
          rw [start, zOne_t hN, if_neg n10, e3, Option.bind_some]
          unfold F_X6_watch_121
          dsimp only
          rw [if_pos hC.2, ← nI_succ]
      · rw [if_neg hC] at hP
        have hD : ¬ zDin E (zXc w a k2) t s < l' := by
          by_cases hak : a = k2
          · subst hak
            rw [zDin_ve (zXc_self g ha s1).sy]
            exact hl'
          · exact fun q => hC ⟨⟨⟨hak, s1, s2⟩, hN⟩, q⟩
        refine ⟨h, (k2 + 1, f', l', J3), ⟨rfl, hP, fr.tr f3, hl'⟩, fun fu => ?_⟩
        funext kl
        rw [start, zOne_t hN, if_neg n10, e3, Option.bind_some]
        unfold F_X6_watch_121
        dsimp only
        rw [if_neg hD, ← nI_succ]
    · rw [if_neg (fun q => hN q.1.2)] at hP
      refine ⟨h, (k2 + 1, f', l', J'), ⟨rfl, hP, fr, hl'⟩, fun fu => ?_⟩
      funext kl
      rw [start, zOne_f hN, if_pos rfl]
      unfold F_X6_watch_121
      rw [if_neg (by rw [i_lt]; omega), ← nI_succ]
  · left
    rw [show s - k2 = 0 by omega] at hP
    refine ⟨_, ⟨J', by rw [← hP], fr, by rw [← hP]; exact hl'⟩, fun fu => ?_⟩
    funext kl
    rw [F_X6_watch_78, hm, if_neg (fun q => h ((i_lts (by omega) (by omega)).1 q)), ← nI_succ]
    rfl
theorem t_watch32 (g : zGoodV w s) (ht : w 0 3 = nI t) (htn : t < n) {J0 : zzJ} (c : zCx E n w J0) (x f l : Int32) (hl : ¬ zDin E w t s < l) : ∃ J1, F_X6_watch_32 4096 x T f l 0 J0 = some (if x = 0 then (zSeO (zCw w T) (fun a b => zDin E (zXc w a b) t s) (fun _ => 0) s 0 s f l).1 else (zSeO (zCw w T) (fun a b => zDin E (zXc w a b) t s) (fun _ => 0) s 0 s f l).2, J1) ∧ zFrC J0 J1 := by
  have h8 := g.1
  generalize hT : zSeO (zCw w T) (fun a b => zDin E (zXc w a b) t s) (fun _ => 0) s 0 s f l = R
  refine zLoop (G := fun fu (p : Nat × Int32 × Int32 × zzJ) => F_X6_watch_32 fu x T p.2.1 p.2.2.1 (nI p.1) p.2.2.2) (P := fun k p => p.1 = k ∧ zSeO (zCw w T) (fun a b => zDin E (zXc w a b) t s) (fun _ => 0) s k (s - k) p.2.1 p.2.2.1 = R ∧ zFrC J0 p.2.2.2 ∧ ¬ zDin E w t s < p.2.2.1) (Q := fun r => ∃ J1, r = some (if x = 0 then R.1 else R.2, J1) ∧ zFrC J0 J1) (s := s) ?_ s 0 (0, f, l, J0) (by omega) ⟨rfl, hT, zFrC.rf, hl⟩ 4096 (by omega)
  rintro k ⟨k2, f', l', J'⟩ hk ⟨rfl, hP, fr, hl'⟩
  dsimp only at hk hP fr hl' ⊢
  have c' := c.fr fr
  have hm : J'.2 7 4 = nI s := (c'.1.1 4 (by omega) (by omega)).trans g.2.1
  by_cases h : k2 < s
  · right
    have sa : F_X0_sits 7 (nI k2) J' = some (zOne (¬ w 4 k2 = -1), J') := by rw [cw_sits zC7, zVe_seat c'.1, zSeat_nI g h]
    have tch : zTch (zW 7 J') (nI k2) ↔ w 1 k2 = 5 := by
      rw [zVe_tch c'.1]
      unfold zTch
      rw [g.2.1, i_nI (by omega), i_nI (by omega), zIt_nI (by omega) (by omega)]
      exact ⟨fun z => z.2, fun z => ⟨by omega, z⟩⟩
    have no : ¬ (w 4 k2 ≠ -1 ∧ ¬ w 1 k2 = 5) → ∀ (e : Nat) (f l : Int32), zSeI (zCw w T) (fun a b => zDin E (zXc w a b) t s) k2 0 e f l = (f, l) := fun hn e f l => zSeI_no (fun b q => hn q.1.2) e 0 f l
    have out : ∀ (kl : Int32 → Int32 → Int32 → Int32 → Int32 → zzJ → Option (Int32 × zzJ)), F_X6_watch_78 kl 4096 x T f' l' (nI k2) 0 0 J' = kl x T f' l' (nI k2 + 1) J' := by
      intro kl
      rw [F_X6_watch_78, hm, if_pos (by rw [i_lt, i_nI (by omega)]; show (0 : Int) < s; omega), if_pos rfl]
    rw [show s - k2 = (s - (k2 + 1)) + 1 by omega, zSeO] at hP
    by_cases h1 : w 4 k2 = -1
    · rw [no (fun q => q.1 h1)] at hP
      refine ⟨h, (k2 + 1, f', l', J'), ⟨rfl, hP, fr, hl'⟩, fun fu => ?_⟩
      rw [F_X6_watch_32, hm, if_pos ((i_lts (by omega) (by omega)).2 h), sa, Option.bind_some, zOne_f (fun q => q h1)]
      refine (if_pos rfl).trans ?_
      dsimp only
      rw [out, ← nI_succ]
    · by_cases h2 : w 1 k2 = 5
      · rw [no (fun q => q.2 h2)] at hP
        refine ⟨h, (k2 + 1, f', l', J'), ⟨rfl, hP, fr, hl'⟩, fun fu => ?_⟩
        rw [F_X6_watch_32, hm, if_pos ((i_lts (by omega) (by omega)).2 h), sa, Option.bind_some, zOne_t h1]
        refine (if_neg n10).trans ?_
        dsimp only
        rw [cw_isTeacher zC7, Option.bind_some, zOne_t (tch.2 h2)]
        refine (if_neg n10).trans ?_
        dsimp only
        rw [out, ← nI_succ]
      · obtain ⟨J3, e3, f3, hl3⟩ := t_watch78 (T := T) g ht htn c' h x f' l' hl' h1 h2
        refine ⟨h, (k2 + 1, _, _, J3), ⟨rfl, hP, fr.tr f3, hl3⟩, fun fu => ?_⟩
        rw [F_X6_watch_32, hm, if_pos ((i_lts (by omega) (by omega)).2 h), sa, Option.bind_some, zOne_t h1]
        refine (if_neg n10).trans ?_
        dsimp only
        rw [cw_isTeacher zC7, Option.bind_some, zOne_f (fun q => h2 (tch.1 q))]
        refine (if_pos rfl).trans ?_
        exact congrFun e3 _
  · left
    rw [show s - k2 = 0 by omega] at hP
    refine ⟨_, ⟨J', rfl, fr⟩, fun fu => ?_⟩
    rw [F_X6_watch_32, hm, if_neg (fun q => h ((i_lts (by omega) (by omega)).1 q)), ← hP]
    show _ = some (if x = 0 then f' else l', J')
    split <;> rfl
theorem m_watch79 {Lf Rt : Int32} (g : zGoodV w s) (ht : w 0 3 = nI t) (htn : t < n) (hb : ∀ b, b < s → ((nI b = Lf ∨ nI b = Rt) ↔ zNxt w (nI b) T)) {J0 : zzJ} (c : zRx E n s w J0) {a : Nat} (ha : a < s) (x f l : Int32) (h35 : J0.2 46 35 = f) (h36 : J0.2 46 36 = l) : ∃ J1, (fun kl => F_X7_watch_79 kl 4096 x Lf Rt (nI a) 0 J0) = (fun kl => kl x Lf Rt (nI (a + 1)) J1) ∧ zRx E n s w J1 ∧ zFrR J0 J1 ∧ (J1.2 46 35, J1.2 46 36) = zSeI (zCw w T) (fun a b => zDin E (zXc w a b) t s) a 0 s f l := by
  have h8 := g.1
  generalize hT : zSeI (zCw w T) (fun a b => zDin E (zXc w a b) t s) a 0 s f l = R
  refine zLoop (G := fun fu (p : Nat × zzJ) => fun kl => F_X7_watch_79 kl fu x Lf Rt (nI a) (nI p.1) p.2) (P := fun k p => p.1 = k ∧ zSeI (zCw w T) (fun a b => zDin E (zXc w a b) t s) a k (s - k) (p.2.2 46 35) (p.2.2 46 36) = R ∧ zRx E n s w p.2 ∧ zFrR J0 p.2) (Q := fun r => ∃ J1, r = (fun kl => kl x Lf Rt (nI (a + 1)) J1) ∧ zRx E n s w J1 ∧ zFrR J0 J1 ∧ (J1.2 46 35, J1.2 46 36) = R) (s := s) ?_ s 0 (0, J0) (by omega) ⟨rfl, by rw [h35, h36]; exact hT, c, zFrR.rf⟩ 4096 (by omega)
  rintro k ⟨k2, J'⟩ hk ⟨rfl, hP, c', fr⟩
  dsimp only at hk hP c' fr ⊢
  have hm := r_many g c'.1
  by_cases h : k2 < s
  · right
    have hxa : zzIx (nI a) 8 := i_ix (by omega) (by omega)
    have hca : (nI a).toNatClampNeg = a := i_cm (by omega)
    have sa : J'.2 53 a = w 4 a := (c'.1.1 a ha).2.2.2
    have ka : J'.2 50 a = w 1 a := (c'.1.1 a ha).1
    rw [show s - k2 = (s - (k2 + 1)) + 1 by omega, zSeI] at hP
    have start : ∀ (fu : Nat) (kl : Int32 → Int32 → Int32 → Int32 → zzJ → Option (Int32 × zzJ)), F_X7_watch_79 kl (fu + 1) x Lf Rt (nI a) (nI k2) J' = (if nI a = nI k2 then F_X7_watch_134 kl (F_X7_watch_79 kl fu) x Lf Rt (nI a) (nI k2) J' else (if w 1 a = 5 then F_X7_watch_134 kl (F_X7_watch_79 kl fu) x Lf Rt (nI a) (nI k2) J' else (if w 4 a = -1 then F_X7_watch_134 kl (F_X7_watch_79 kl fu) x Lf Rt (nI a) (nI k2) J' else (if nI k2 = Lf then F_X7_watch_130 kl (F_X7_watch_79 kl fu) x Lf Rt (nI a) (nI k2) J' else (if nI k2 = Rt then F_X7_watch_130 kl (F_X7_watch_79 kl fu) x Lf Rt (nI a) (nI k2) J' else F_X7_watch_134 kl (F_X7_watch_79 kl fu) x Lf Rt (nI a) (nI k2) J'))))) := by
      intro fu kl
      rw [F_X7_watch_79, hm, if_pos ((i_lts (by omega) (by omega)).2 h)]
      simp only [if_pos hxa, hca, sa, ka]
    by_cases hC : zCw w T a k2
    · have hC2 := hC
      obtain ⟨⟨h1, h2, h3⟩, hN⟩ := hC2
      obtain ⟨J3, e3, c3, f3, p35, p36⟩ := m_looks g ht htn c' ha h h1 h2 (nxt_sits g h hN)
      refine ⟨h, (k2 + 1, J3), ⟨rfl, ?_, c3, fr.tr f3⟩, fun fu => ?_⟩
      · dsimp only
        rw [p35, p36]
        by_cases hD : zDin E (zXc w a k2) t s < J'.2 46 36
        · rw [if_pos ⟨hC, hD⟩] at hP
          rw [if_pos hD, if_pos hD]
          exact hP
        · rw [if_neg (fun q => hD q.2)] at hP
          rw [if_neg hD, if_neg hD]
          exact hP
      · funext kl
        have e130 : F_X7_watch_130 kl (F_X7_watch_79 kl fu) x Lf Rt (nI a) (nI k2) J' = F_X7_watch_79 kl fu x Lf Rt (nI a) (nI (k2 + 1)) J3 := by
          unfold F_X7_watch_130 F_X7_watch_135
          rw [if_neg n10, e3, Option.bind_some, ← nI_succ]
        rw [start, if_neg (fun e => h1 (i_inj (by omega) (by omega) e)), if_neg h3, if_neg h2, e130]
        rcases (hb k2 h).2 hN with q | q
        · rw [if_pos q]
        · by_cases q2 : nI k2 = Lf
          · rw [if_pos q2]
          · rw [if_neg q2, if_pos q]
    · rw [if_neg (fun q => hC q.1)] at hP
      refine ⟨h, (k2 + 1, J'), ⟨rfl, hP, c', fr⟩, fun fu => ?_⟩
      funext kl
      have e134 : F_X7_watch_134 kl (F_X7_watch_79 kl fu) x Lf Rt (nI a) (nI k2) J' = F_X7_watch_79 kl fu x Lf Rt (nI a) (nI (k2 + 1)) J' := by
        unfold F_X7_watch_134 F_X7_watch_135
        rw [if_pos rfl, ← nI_succ]
      rw [start, e134]
      by_cases h1 : nI a = nI k2
      · rw [if_pos h1]
      · rw [if_neg h1]
        by_cases h3 : w 1 a = 5
        · rw [if_pos h3]
        · rw [if_neg h3]
          by_cases h2 : w 4 a = -1
          · rw [if_pos h2]
          · have hn : ¬ zNxt w (nI k2) T := fun q => hC ⟨⟨fun e => h1 (by rw [e]), h2, h3⟩, q⟩
            rw [if_neg h2, if_neg (fun q => hn ((hb k2 h).1 (Or.inl q))), if_neg (fun q => hn ((hb k2 h).1 (Or.inr q)))]
  · left
    rw [show s - k2 = 0 by omega] at hP
    refine ⟨_, ⟨J', rfl, c', fr, hP⟩, fun fu => ?_⟩
    funext kl
    rw [F_X7_watch_79, hm, if_neg (fun q => h ((i_lts (by omega) (by omega)).1 q)), ← nI_succ]
theorem m_watch67 {Lf Rt : Int32} (g : zGoodV w s) (ht : w 0 3 = nI t) (htn : t < n) (hb : ∀ b, b < s → ((nI b = Lf ∨ nI b = Rt) ↔ zNxt w (nI b) T)) {J0 : zzJ} (c : zRx E n s w J0) (x f l : Int32) (h35 : J0.2 46 35 = f) (h36 : J0.2 46 36 = l) : ∃ J1, F_X7_watch_67 4096 x Lf Rt 0 J0 = some (if x = 0 then (zSeO (zCw w T) (fun a b => zDin E (zXc w a b) t s) (fun _ => 0) s 0 s f l).1 else (zSeO (zCw w T) (fun a b => zDin E (zXc w a b) t s) (fun _ => 0) s 0 s f l).2, J1) ∧ zRx E n s w J1 ∧ zFrR J0 J1 := by
  have h8 := g.1
  generalize hT : zSeO (zCw w T) (fun a b => zDin E (zXc w a b) t s) (fun _ => 0) s 0 s f l = R
  refine zLoop (G := fun fu (p : Nat × zzJ) => F_X7_watch_67 fu x Lf Rt (nI p.1) p.2) (P := fun k p => p.1 = k ∧ zSeO (zCw w T) (fun a b => zDin E (zXc w a b) t s) (fun _ => 0) s k (s - k) (p.2.2 46 35) (p.2.2 46 36) = R ∧ zRx E n s w p.2 ∧ zFrR J0 p.2) (Q := fun r => ∃ J1, r = some (if x = 0 then R.1 else R.2, J1) ∧ zRx E n s w J1 ∧ zFrR J0 J1) (s := s) ?_ s 0 (0, J0) (by omega) ⟨rfl, by rw [h35, h36]; exact hT, c, zFrR.rf⟩ 4096 (by omega)
  rintro k ⟨k2, J'⟩ hk ⟨rfl, hP, c', fr⟩
  dsimp only at hk hP c' fr ⊢
  have hm := r_many g c'.1
  by_cases h : k2 < s
  · right
    rw [show s - k2 = (s - (k2 + 1)) + 1 by omega, zSeO] at hP
    obtain ⟨J3, e3, c3, f3, p3⟩ := m_watch79 g ht htn hb c' h x _ _ rfl rfl
    refine ⟨h, (k2 + 1, J3), ⟨rfl, ?_, c3, fr.tr f3⟩, fun fu => ?_⟩
    · dsimp only
      rw [← hP, Nat.sub_zero, ← p3]
    · rw [F_X7_watch_67, hm, if_pos ((i_lts (by omega) (by omega)).2 h)]
      exact congrFun e3 _
  · left
    rw [show s - k2 = 0 by omega] at hP
    refine ⟨_, ⟨J', rfl, c', fr⟩, fun fu => ?_⟩
    rw [F_X7_watch_67, hm, if_neg (fun q => h ((i_lts (by omega) (by omega)).1 q)), ← hP]
    show _ = some (if x = 0 then J'.2 46 35 else J'.2 46 36, J')
    split <;> rfl
theorem c_watch (I : zInv L xs E s t n z J) : zAns L xs (F_X6_watch x) (F_X7_watch x) J := by
  obtain ⟨g, h8, ht, htn, h4, hC, hR⟩ := inv_d I
  by_cases hx : 0 ≤ x.toInt ∧ x.toInt ≤ 1
  · have c : zCx E n (zW 7 J) J := ⟨zVe.rf, hC⟩
    obtain ⟨J1, e1, s1⟩ := t_din zC7 c.1 g.2.1 h8 ht htn hC
    generalize hT : zFT (zW 7 J) 0 s = T
    obtain ⟨J2, e2, f2⟩ := t_watch32 (T := T) g ht htn (c.fr (s1.fr (Or.inl rfl))) x (-1) (zDin E (zW 7 J) t s) (by rw [i_lt]; omega)
    have eC : F_X6_watch x J = F_X6_watch_32 4096 x T (-1) (zDin E (zW 7 J) t s) 0 J1 := by
      unfold F_X6_watch
      rw [b_01, Option.bind_some, zOne_t hx]
      refine (if_neg n10).trans ?_
      dsimp only
      rw [cw_first zC7 (by omega) h4, Option.bind_some, hT]
      dsimp only
      rw [e1, Option.bind_some]
    refine zAns.q I _ ⟨J2, eC.trans e2, (s1.fr (Or.inl rfl)).tr f2⟩ (fun J1 I1 ti => ?_)
    have c0 : zRx E n s (zW 7 J) J1 := ⟨ti, (inv_d I1).2.2.2.2.2.2⟩
    have fa : zFrR J1 (wI J1 46 35 (-1)) := zFrR.wr (by omega)
    have ca := c0.fr fa (tie1 (by omega) ti)
    obtain ⟨J3, e3, l3⟩ := r_din g ca.1 ca.2 ht htn
    have cb := ca.lo l3
    have fb : zFrR J3 (wI J3 46 36 (zDin E (zW 7 J) t s)) := zFrR.wr (by omega)
    have cc := cb.fr fb (tie1 (by omega) cb.1)
    have key : ∀ Lf Rt : Int32, (∀ b, b < s → ((nI b = Lf ∨ nI b = Rt) ↔ zNxt (zW 7 J) (nI b) T)) → F_X7_watch x J1 = F_X7_watch_67 4096 x Lf Rt 0 (wI J3 46 36 (zDin E (zW 7 J) t s)) → ∃ J2, F_X7_watch x J1 = some (if x = 0 then (zSeO (zCw (zW 7 J) T) (fun a b => zDin E (zXc (zW 7 J) a b) t s) (fun _ => 0) s 0 s (-1) (zDin E (zW 7 J) t s)).1 else (zSeO (zCw (zW 7 J) T) (fun a b => zDin E (zXc (zW 7 J) a b) t s) (fun _ => 0) s 0 s (-1) (zDin E (zW 7 J) t s)).2, J2) ∧ zFrR J1 J2 ∧ zTieV J2 (zW 7 J) s := by
      intro Lf Rt hb e
      obtain ⟨J4, e4, c4, f4⟩ := m_watch67 g ht htn hb cc x (-1) (zDin E (zW 7 J) t s) (by rw [wI_g, if_neg (by omega), l3.2.1 35 (by omega), wI_g, if_pos rfl]) (by rw [wI_g, if_pos rfl])
      exact ⟨J4, e.trans e4, ((fa.tr l3.fr).tr fb).tr f4, c4.1⟩
    have st : F_X7_watch x J1 = (if T = (-1 : Int32) then F_X7_watch_46 x T (-1 : Int32) (wI J3 46 36 (zDin E (zW 7 J) t s)) else (Option.bind (F_X7_neighbour T (-1 : Int32) (wI J3 46 36 (zDin E (zW 7 J) t s))) fun q20 => F_X7_watch_46 x T q20.1 q20.2)) := by
      unfold F_X7_watch
      rw [b_inI, Option.bind_some, zOne_t (by exact hx)]
      refine (if_neg n10).trans ?_
      dsimp only
      rw [e3, Option.bind_some]
      dsimp only
      rw [r_first g cc.1, Option.bind_some, hT]
    rcases zFT_or (w := zW 7 J) s 0 with h | ⟨p, _, hp, h, hsit⟩
    · rw [hT] at h
      refine key (-1) (-1) (fun b hb => ⟨?_, fun q => ?_⟩) ?_
      · rintro (q | q) <;> exact absurd q (i_nm1 (by omega))
      · rw [h] at q
        exact absurd rfl q.1
      · rw [st, if_pos h]
        unfold F_X7_watch_46
        rw [if_pos h]
    · rw [hT] at h
      have hp : p < s := by omega
      have sp : (zW 7 J) 4 p ≠ -1 := by rw [← zSeat_nI g hp]; exact hsit
      obtain ⟨A, B, eA, eB, ho⟩ := r_two g cc.1 hp
      refine key B A (fun b hb => ?_) ?_
      · rw [h, nxt_sy g hb hp sp, zNxt_iff g hb hp]
        rcases ho with ⟨rfl, rfl⟩ | ⟨rfl, rfl⟩
        · exact ⟨fun q => q.elim (fun q => Or.inr q.symm) (fun q => Or.inl q.symm), fun q => q.elim (fun q => Or.inr q.symm) (fun q => Or.inl q.symm)⟩
        · exact ⟨fun q => q.elim (fun q => Or.inl q.symm) (fun q => Or.inr q.symm), fun q => q.elim (fun q => Or.inl q.symm) (fun q => Or.inr q.symm)⟩
      · rw [st, h, if_neg (i_nm1 (by omega)), eB, Option.bind_some]
        unfold F_X7_watch_46
        rw [if_neg (i_nm1 (by omega)), eA, Option.bind_some]
  · refine zAns.no (v := -2) I ?_ ?_
    · unfold F_X6_watch
      rw [b_01, Option.bind_some, zOne_f hx]
      exact if_pos rfl
    · unfold F_X7_watch
      rw [b_inI, Option.bind_some, zOne_f (by exact hx)]
      exact if_pos rfl
end WA
