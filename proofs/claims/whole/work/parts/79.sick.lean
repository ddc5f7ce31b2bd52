/-! how often all are sick: the class -/
section SK
variable {E : zEv2} {s t n : Nat} {J J1 J2 : zzJ} {w w' : zVw} {x y v lim off : Int32} {a r i : Nat} {q : Nat → Nat → Int32} {st : zS5}
theorem b_it {c k z : Nat} (h : zKd c = 8) (hz : zSz c = z) (hk : k < z) (hz2 : z < 4096) : F_X6_itemAt c (nI k) J = some (J.2 c k, J) := by
  rw [b_itemAt h hz (by omega), i_nI (by omega), if_pos (by omega)]
  rfl
theorem b_pt {c k z : Nat} (h : zKd c = 8) (hz : zSz c = z) (hk : k < z) (hz2 : z < 4096) : F_X6_put c (nI k) v J = some (wI J c k v) := by
  rw [b_put h hz (by omega), i_nI (by omega), if_pos (by omega)]
  rfl
theorem zRi_f {J J1 : zzJ} (h : ∀ c, (c = 30 ∨ c = 31 ∨ c = 32) → J1.2 c = J.2 c) (r : zRi J st s) : zRi J1 st s := by
  unfold zRi
  rw [h 30 (by omega), h 31 (by omega), h 32 (by omega)]
  exact r
theorem t_sickIn {b m : Nat} (hb : b ≤ 60) (hm : m < b) (hs : s ≤ 8) {J0 : zzJ} (hp : zPl J0 q lim b s) (hr : zRi J0 st s) (hg : zSg st s m 0) : ∃ l J1, F_X3_sickIn (nI m) J0 = some (l, J1) ∧ st.2.2.2.1 + l = (zMile q lim m 0 s st).2.2.2.1 ∧ zRi J1 (zMile q lim m 0 s st) s ∧ J1.1 = J0.1 ∧ ∀ c, c ≠ 30 → c ≠ 31 → c ≠ 32 → J1.2 c = J0.2 c := by
  generalize hT : zMile q lim m 0 s st = T
  refine zLoop (G := fun fu (p : Nat × Int32 × zzJ) => F_X3_sickIn_4 fu (nI m) p.2.1 (nI p.1) p.2.2) (P := fun k p => p.1 = k ∧ (∃ st', zRi p.2.2 st' s ∧ zSg st' s m k ∧ zMile q lim m k (s - k) st' = T ∧ st.2.2.2.1 + p.2.1 = st'.2.2.2.1) ∧ p.2.2.1 = J0.1 ∧ ∀ c, c ≠ 30 → c ≠ 31 → c ≠ 32 → p.2.2.2 c = J0.2 c) (Q := fun r => ∃ l J1, r = some (l, J1) ∧ st.2.2.2.1 + l = T.2.2.2.1 ∧ zRi J1 T s ∧ J1.1 = J0.1 ∧ ∀ c, c ≠ 30 → c ≠ 31 → c ≠ 32 → J1.2 c = J0.2 c) (s := s) ?_ s 0 (0, 0, J0) (by omega) ⟨rfl, ⟨st, hr, hg, hT, Int32.add_zero _⟩, rfl, fun _ _ _ _ => rfl⟩ 4096 (by omega)
  rintro k ⟨k2, l, J'⟩ hk ⟨rfl, ⟨st', r', g', hP, hl⟩, a1, b1⟩
  dsimp only at hk r' hP hl a1 b1 ⊢
  have h5 : J'.2 28 5 = nI s := by rw [b1 28 (by omega) (by omega) (by omega)]; exact hp.2.1
  have h6 : J'.2 28 6 = lim := by rw [b1 28 (by omega) (by omega) (by omega)]; exact hp.2.2.1
  by_cases h : k2 < s
  · right
    have hq : J'.2 29 (8 * m + k2) = q m k2 := by rw [b1 29 (by omega) (by omega) (by omega)]; exact hp.2.2.2 m k2 hm h
    have e30 : F_X6_itemAt 30 (nI k2) J' = some (st'.1 k2, J') := by rw [b_it (z := 8) rfl rfl (by omega) (by omega), r'.1 k2 h]
    have e29 : F_X6_itemAt 29 (nI m * 8 + nI k2) J' = some (q m k2, J') := by rw [i_8, b_it (z := 480) rfl rfl (by omega) (by omega), hq]
    rw [show s - k2 = (s - (k2 + 1)) + 1 by omega, zMile] at hP
    have gs := zSg_step (q := q) (lim := lim) (show m < 100 by omega) h hs g'
    by_cases hc : lim < st'.1 k2 + q m k2
    · have est : zStp q lim m k2 st' = (zUd st'.1 k2 0, zUd st'.2.1 k2 (st'.2.1 k2 + 1), zUd st'.2.2.1 k2 (if st'.2.2.1 k2 = -1 then nI m else st'.2.2.1 k2), st'.2.2.2.1 + 1, if st'.2.2.2.2 = -1 then nI k2 else st'.2.2.2.2) := if_pos hc
      rw [est] at hP gs
      obtain ⟨cc, hcc, ecc, hz⟩ := g'.1 k2 h
      have e32 : ∀ J'' : zzJ, J''.2 32 = J'.2 32 → F_X6_itemAt 32 (nI k2) J'' = some (nI cc, J'') := fun J'' he => by rw [b_it (z := 8) rfl rfl (by omega) (by omega), he, r'.2.1 k2 h, ecc]
      have note : ∀ J'' : zzJ, J''.2 32 = J'.2 32 → J''.2 31 = J'.2 31 → F_X3_noteSick (nI k2) (nI m) J'' = some (wI (if cc = 0 then wI J'' 31 k2 (nI m) else J'') 32 k2 (nI cc + 1)) := by
        intro J'' he1 he2
        unfold F_X3_noteSick F_X3_noteSick_20
        rw [e32 J'' he1, Option.bind_some]
        dsimp only
        by_cases h0 : cc = 0
        · subst h0
          rw [if_pos (show nI 0 = (0 : Int32) from rfl), if_pos rfl, b_pt (z := 8) rfl rfl (by omega) (by omega), Option.bind_some, e32 _ (by rw [wI_ne (by omega)]; exact he1), Option.bind_some]
          dsimp only
          rw [b_pt (z := 8) rfl rfl (by omega) (by omega)]
          rfl
        · rw [if_neg (fun e => h0 (i_inj (by omega) (by omega) (e.trans (show (0 : Int32) = nI 0 from rfl)))), if_neg h0, e32 _ he1, Option.bind_some]
          dsimp only
          rw [b_pt (z := 8) rfl rfl (by omega) (by omega)]
          rfl
      generalize hJ3 : wI (if cc = 0 then wI (wI J' 30 k2 0) 31 k2 (nI m) else wI J' 30 k2 0) 32 k2 (nI cc + 1) = J3
      have o3 : ∀ c, c ≠ 30 → c ≠ 31 → c ≠ 32 → J3.2 c = J'.2 c := fun c h1 h2 h3 => by
        rw [← hJ3, wI_ne h3]
        split
        · rw [wI_ne h2, wI_ne h1]
        · rw [wI_ne h1]
      refine ⟨h, (k2 + 1, l + 1, J3), ⟨rfl, ⟨_, ⟨fun j hj => ?_, fun j hj => ?_, fun j hj => ?_⟩, gs, hP, ?_⟩, ?_, fun c h1 h2 h3 => (o3 c h1 h2 h3).trans (b1 c h1 h2 h3)⟩, fun fu => ?_⟩
      · have : J3.2 30 = (wI J' 30 k2 0).2 30 := by
          rw [← hJ3, wI_ne (by omega)]
          split
          · rw [wI_ne (by omega)]
          · rfl
        dsimp only
        rw [this, wI_g]
        unfold zUd
        split
        · rfl
        · exact r'.1 j hj
      · have : ∀ j, J3.2 32 j = if j = k2 then nI cc + 1 else J'.2 32 j := fun j => by
          rw [← hJ3, wI_g]
          by_cases hj2 : j = k2
          · rw [if_pos hj2, if_pos hj2]
          · rw [if_neg hj2, if_neg hj2]
            split
            · rw [wI_ne (by omega), wI_ne (by omega)]
            · rw [wI_ne (by omega)]
        dsimp only
        rw [this]
        unfold zUd
        split
        · rw [ecc]
        · exact r'.2.1 j hj
      · have : ∀ j, J3.2 31 j = if j = k2 then (if cc = 0 then nI m else J'.2 31 k2) else J'.2 31 j := fun j => by
          rw [← hJ3, wI_ne (by omega)]
          by_cases h0 : cc = 0
          · rw [if_pos h0, wI_g, if_pos h0]
            split
            · rfl
            · rw [wI_ne (by omega)]
          · rw [if_neg h0, wI_ne (by omega), if_neg h0]
            split
            · next h => rw [h]
            · rfl
        dsimp only
        rw [this]
        unfold zUd
        by_cases hj2 : j = k2
        · rw [if_pos hj2, if_pos hj2]
          by_cases h0 : cc = 0
          · rw [if_pos h0, if_pos (hz.1 h0)]
          · rw [if_neg h0, if_neg (fun e => h0 (hz.2 e)), r'.2.2 k2 h]
        · rw [if_neg hj2, if_neg hj2]; exact r'.2.2 j hj
      · dsimp only
        rw [← hl, Int32.add_assoc]
      · dsimp only
        rw [← hJ3]
        split <;> exact a1
      · rw [F_X3_sickIn_4, h5, if_pos ((i_lts (by omega) (by omega)).2 h), e30, Option.bind_some]
        dsimp only
        rw [e29, Option.bind_some]
        dsimp only
        rw [h6, if_pos hc]
        unfold F_X3_sickIn_50 F_X3_sickIn_68
        rw [if_neg n10, b_pt (z := 8) rfl rfl (by omega) (by omega), Option.bind_some, if_neg n10, note _ (wI_ne (by omega)) (wI_ne (by omega)), Option.bind_some, hJ3, ← nI_succ]
    · have est : zStp q lim m k2 st' = (zUd st'.1 k2 (st'.1 k2 + q m k2), st'.2.1, st'.2.2.1, st'.2.2.2.1, st'.2.2.2.2) := if_neg hc
      rw [est] at hP gs
      refine ⟨h, (k2 + 1, l, wI J' 30 k2 (st'.1 k2 + q m k2)), ⟨rfl, ⟨_, ⟨fun j hj => ?_, fun j hj => ?_, fun j hj => ?_⟩, gs, hP, hl⟩, a1, fun c h1 h2 h3 => by dsimp only; rw [wI_ne h1]; exact b1 c h1 h2 h3⟩, fun fu => ?_⟩
      · dsimp only
        rw [wI_g]
        unfold zUd
        split
        · rfl
        · exact r'.1 j hj
      · dsimp only
        rw [wI_ne (by omega)]; exact r'.2.1 j hj
      · dsimp only
        rw [wI_ne (by omega)]; exact r'.2.2 j hj
      · rw [F_X3_sickIn_4, h5, if_pos ((i_lts (by omega) (by omega)).2 h), e30, Option.bind_some]
        dsimp only
        rw [e29, Option.bind_some]
        dsimp only
        rw [h6, if_neg hc]
        unfold F_X3_sickIn_50 F_X3_sickIn_68
        rw [if_pos rfl, b_pt (z := 8) rfl rfl (by omega) (by omega), Option.bind_some, if_pos rfl, ← nI_succ]
  · left
    rw [show s - k2 = 0 by omega] at hP
    refine ⟨_, ⟨l, J', rfl, ?_, ?_, a1, b1⟩, fun fu => ?_⟩
    · rw [hl, ← hP]; rfl
    · rw [← hP]; exact r'
    · rw [F_X3_sickIn_4, h5, if_neg (fun q => h ((i_lts (by omega) (by omega)).1 q))]
theorem zPl_f {b : Nat} {J J1 : zzJ} (h1 : J1.2 28 = J.2 28) (h2 : J1.2 29 = J.2 29) (p : zPl J q lim b s) : zPl J1 q lim b s := by
  unfold zPl
  rw [h1, h2]
  exact p
theorem t_sick {b : Nat} (hb : b ≤ 60) (hs : s ≤ 8) {J0 : zzJ} (hp : zPl J0 q lim b s) : ∃ J1, F_X3_sick off J0 = some ((zRun q lim s off 0 b zS0).2.2.2.1, J1) ∧ zRi J1 (zRun q lim s off 0 b zS0) s ∧ J1.1 = J0.1 ∧ ∀ c, c ≠ 30 → c ≠ 31 → c ≠ 32 → J1.2 c = J0.2 c := by
  generalize hT : zRun q lim s off 0 b zS0 = T
  obtain ⟨Ja, ea, aa, ba, ca⟩ := b_fill (J := J0) (row := 30) (v := 0) (n := 8) rfl rfl (by omega)
  obtain ⟨Jb, eb, ab, bb, cb⟩ := b_fill (J := Ja) (row := 32) (v := 0) (n := 8) rfl rfl (by omega)
  obtain ⟨Jc, ec, ac, bc, cc⟩ := b_fill (J := Jb) (row := 31) (v := -1) (n := 8) rfl rfl (by omega)
  have r0 : zRi Jc zS0 s := by
    refine ⟨fun j hj => ?_, fun j hj => ?_, fun j hj => ?_⟩
    · rw [bc 30 (by omega), bb 30 (by omega), ca, if_pos (by omega)]; rfl
    · rw [bc 32 (by omega), cb, if_pos (by omega)]; rfl
    · rw [cc, if_pos (by omega)]; rfl
  have oc : ∀ c, c ≠ 30 → c ≠ 31 → c ≠ 32 → Jc.2 c = J0.2 c := fun c h1 h2 h3 => (bc c h2).trans ((bb c h3).trans (ba c h1))
  have lp : ∃ J1, F_X3_sick_28 4096 off 0 0 Jc = some (T.2.2.2.1, J1) ∧ zRi J1 T s ∧ J1.1 = J0.1 ∧ ∀ c, c ≠ 30 → c ≠ 31 → c ≠ 32 → J1.2 c = J0.2 c := by
    refine zLoop (G := fun fu (p : Nat × Int32 × zzJ) => F_X3_sick_28 fu off p.2.1 (nI p.1) p.2.2) (P := fun k p => p.1 = k ∧ (∃ st', zRi p.2.2 st' s ∧ zSg st' s k 0 ∧ zRun q lim s off k (b - k) st' = T ∧ p.2.1 = st'.2.2.2.1) ∧ p.2.2.1 = J0.1 ∧ ∀ c, c ≠ 30 → c ≠ 31 → c ≠ 32 → p.2.2.2 c = J0.2 c) (Q := fun r => ∃ J1, r = some (T.2.2.2.1, J1) ∧ zRi J1 T s ∧ J1.1 = J0.1 ∧ ∀ c, c ≠ 30 → c ≠ 31 → c ≠ 32 → J1.2 c = J0.2 c) (s := b) ?_ b 0 (0, 0, Jc) (by omega) ⟨rfl, ⟨zS0, r0, zSg_0, hT, rfl⟩, ac.trans (ab.trans aa), oc⟩ 4096 (by omega)
    rintro k ⟨k2, l, J'⟩ hk ⟨rfl, ⟨st', r', g', hP, hl⟩, a1, b1⟩
    dsimp only at hk r' hP hl a1 b1 ⊢
    have p' : zPl J' q lim b s := zPl_f (b1 28 (by omega) (by omega) (by omega)) (b1 29 (by omega) (by omega) (by omega)) hp
    by_cases h : k2 < b
    · right
      rw [show b - k2 = (b - (k2 + 1)) + 1 by omega, zRun] at hP
      obtain ⟨l2, J3, e3, hl3, r3, a3, b3⟩ := t_sickIn hb h hs p' r' g'
      have g3 := zSg_next (c := nI k2 = off) (zSg_mile (q := q) (lim := lim) (m := k2) (by omega) hs s 0 st' (by omega) g')
      by_cases hoff : nI k2 = off
      · obtain ⟨J4, e4, a4, b4, c4⟩ := b_fill (J := J3) (row := 30) (v := 0) (n := 8) rfl rfl (by omega)
        refine ⟨h, (k2 + 1, l + l2, J4), ⟨rfl, ⟨_, ?_, g3, hP, ?_⟩, a4.trans (a3.trans a1), fun c h1 h2 h3 => (b4 c h1).trans ((b3 c h1 h2 h3).trans (b1 c h1 h2 h3))⟩, fun fu => ?_⟩
        · unfold zOff
          rw [if_pos hoff]
          refine ⟨fun j hj => ?_, fun j hj => ?_, fun j hj => ?_⟩
          · dsimp only
            rw [c4, if_pos (by omega)]
          · dsimp only
            rw [b4 32 (by omega)]; exact r3.2.1 j hj
          · dsimp only
            rw [b4 31 (by omega)]; exact r3.2.2 j hj
        · unfold zOff
          rw [if_pos hoff]
          dsimp only
          rw [hl]
          exact hl3
        · rw [F_X3_sick_28, p'.1, if_pos ((i_lts (by omega) (by omega)).2 h), e3, Option.bind_some]
          dsimp only
          rw [if_pos hoff, e4, Option.bind_some, ← nI_succ]
      · refine ⟨h, (k2 + 1, l + l2, J3), ⟨rfl, ⟨_, ?_, g3, hP, ?_⟩, a3.trans a1, fun c h1 h2 h3 => (b3 c h1 h2 h3).trans (b1 c h1 h2 h3)⟩, fun fu => ?_⟩
        · unfold zOff
          rw [if_neg hoff]
          exact r3
        · unfold zOff
          rw [if_neg hoff]
          dsimp only
          rw [hl]
          exact hl3
        · rw [F_X3_sick_28, p'.1, if_pos ((i_lts (by omega) (by omega)).2 h), e3, Option.bind_some]
          dsimp only
          rw [if_neg hoff, ← nI_succ]
    · left
      rw [show b - k2 = 0 by omega] at hP
      refine ⟨_, ⟨J', rfl, by rw [← hP]; exact r', a1, b1⟩, fun fu => ?_⟩
      rw [F_X3_sick_28, p'.1, if_neg (fun q => h ((i_lts (by omega) (by omega)).1 q)), ← hP, hl]
      rfl
  obtain ⟨J1, e1, r1, a1, b1⟩ := lp
  refine ⟨J1, ?_, r1, a1, b1⟩
  unfold F_X3_sick
  rw [ea, Option.bind_some, eb, Option.bind_some, ec, Option.bind_some]
  exact e1
theorem t_firstSick {m : Nat} (hm : m ≤ 60) (hs : s ≤ 8) (h5 : J.2 28 5 = nI s) (hr : zRi J st s) (hg : zSg st s m 0) : F_X3_firstSick J = some (st.2.2.2.2, J) := by
  obtain ⟨g1, g2, g3⟩ := hg
  refine zLoop (G := fun fu (p : Nat × Int32) => F_X3_firstSick_4 fu p.2 (nI p.1) J) (P := fun k p => p.1 = k ∧ ((p.2 = -1 ∧ ∀ j, j < k → st.2.2.1 j = -1) ∨ ∃ a ka, a < k ∧ p.2 = nI a ∧ ka < 1000 ∧ st.2.2.1 a = nI ka ∧ ∀ j k', j < k → st.2.2.1 j = nI k' → k' < 1000 → ka < k' ∨ (ka = k' ∧ a ≤ j))) (Q := fun r => r = some (st.2.2.2.2, J)) (s := s) ?_ s 0 (0, -1) (by omega) ⟨rfl, Or.inl ⟨rfl, fun j hj => absurd hj (by omega)⟩⟩ 4096 (by omega)
  rintro k ⟨k2, l⟩ hk ⟨rfl, hP⟩
  dsimp only at hk hP ⊢
  by_cases h : k2 < s
  · right
    obtain ⟨c, hc, ec, hz⟩ := g1 k2 h
    have e32 : F_X6_itemAt 32 (nI k2) J = some (nI c, J) := by rw [b_it (z := 8) rfl rfl (by omega) (by omega), hr.2.1 k2 h, ec]
    have start : ∀ fu, F_X3_firstSick_4 (fu + 1) l (nI k2) J = (if (0 : Int32) < nI c then (if l = (-1 : Int32) then F_X3_firstSick_4 fu (nI k2) (nI (k2 + 1)) J else (Option.bind (F_X6_itemAt 31 (nI k2) J) fun q5 => (Option.bind (F_X6_itemAt 31 l q5.2) fun q6 => (if q5.1 < q6.1 then F_X3_firstSick_4 fu (nI k2) (nI (k2 + 1)) q6.2 else F_X3_firstSick_4 fu l (nI (k2 + 1)) q6.2)))) else F_X3_firstSick_4 fu l (nI (k2 + 1)) J) := by
      intro fu
      rw [F_X3_firstSick_4, h5, if_pos ((i_lts (by omega) (by omega)).2 h), e32, Option.bind_some, ← nI_succ]
    by_cases h0 : c = 0
    · have hf := hz.1 h0
      refine ⟨h, (k2 + 1, l), ⟨rfl, ?_⟩, fun fu => ?_⟩
      · rcases hP with ⟨h1, h2⟩ | ⟨a, ka, h1, h2, hka, h3, h4⟩
        · left
          refine ⟨h1, fun j hj => ?_⟩
          by_cases hj2 : j = k2
          · rw [hj2]; exact hf
          · exact h2 j (by omega)
        · right
          refine ⟨a, ka, by omega, h2, hka, h3, fun j k' hj e hk' => ?_⟩
          by_cases hj2 : j = k2
          · rw [hj2, hf] at e
            exact absurd e.symm (i_nm1 (by omega))
          · exact h4 j k' (by omega) e hk'
      · rw [start, if_neg (by rw [h0]; decide)]
    · have hf : st.2.2.1 k2 ≠ -1 := fun e => h0 (hz.2 e)
      obtain ⟨kf, ef, hkf⟩ := (g2 k2 h).resolve_left hf
      have c0 : (0 : Int32) < nI c := by rw [i_lt, i_nI (by omega)]; show (0 : Int) < c; omega
      have e31 : F_X6_itemAt 31 (nI k2) J = some (nI kf, J) := by rw [b_it (z := 8) rfl rfl (by omega) (by omega), hr.2.2 k2 h, ef]
      rcases hP with ⟨h1, h2⟩ | ⟨a, ka, h1, h2, hka, h3, h4⟩
      · refine ⟨h, (k2 + 1, nI k2), ⟨rfl, Or.inr ⟨k2, kf, by omega, rfl, by omega, ef, fun j k' hj e hk' => ?_⟩⟩, fun fu => ?_⟩
        · by_cases hj2 : j = k2
          · rw [hj2, ef] at e
            have := i_inj (by omega) (by omega) e
            omega
          · rw [h2 j (by omega)] at e
            exact absurd e.symm (i_nm1 (by omega))
        · rw [start, if_pos c0, if_pos h1]
      · have e31a : F_X6_itemAt 31 l J = some (nI ka, J) := by rw [h2, b_it (z := 8) rfl rfl (by omega) (by omega), hr.2.2 a (by omega), h3]
        by_cases hlt : kf < ka
        · refine ⟨h, (k2 + 1, nI k2), ⟨rfl, Or.inr ⟨k2, kf, by omega, rfl, by omega, ef, fun j k' hj e hk' => ?_⟩⟩, fun fu => ?_⟩
          · by_cases hj2 : j = k2
            · rw [hj2, ef] at e
              have := i_inj (by omega) (by omega) e
              omega
            · have := h4 j k' (by omega) e hk'
              omega
          · rw [start, if_pos c0, if_neg (by rw [h2]; exact i_nm1 (by omega)), e31, Option.bind_some]
            dsimp only
            rw [e31a, Option.bind_some]
            dsimp only
            rw [if_pos ((i_lts (by omega) (by omega)).2 hlt)]
        · refine ⟨h, (k2 + 1, l), ⟨rfl, Or.inr ⟨a, ka, by omega, h2, hka, h3, fun j k' hj e hk' => ?_⟩⟩, fun fu => ?_⟩
          · by_cases hj2 : j = k2
            · rw [hj2, ef] at e
              have := i_inj (by omega) (by omega) e
              omega
            · exact h4 j k' (by omega) e hk'
          · rw [start, if_pos c0, if_neg (by rw [h2]; exact i_nm1 (by omega)), e31, Option.bind_some]
            dsimp only
            rw [e31a, Option.bind_some]
            dsimp only
            rw [if_neg (fun q => hlt ((i_lts (by omega) (by omega)).1 q))]
  · left
    refine ⟨_, rfl, fun fu => ?_⟩
    rw [F_X3_firstSick_4, h5, if_neg (fun q => h ((i_lts (by omega) (by omega)).1 q))]
    congr 2
    have hks : k2 = s := by omega
    subst hks
    rcases hP with ⟨h1, h2⟩ | ⟨a, ka, h1, h2, hka, h3, h4⟩
    · rcases g3 with ⟨w1, _⟩ | ⟨a', k', w1, w2, w3, _, _⟩
      · rw [h1, w1]
      · rw [h2 a' w1] at w3
        exact absurd w3.symm (i_nm1 (by omega))
    · rcases g3 with ⟨_, w1⟩ | ⟨a', k', w1, w2, w3, w4, w5⟩
      · rw [w1 a h1] at h3
        exact absurd h3.symm (i_nm1 (by omega))
      · rw [h2, w2]
        have q1 := w5 a ka h1 h3 hka
        have q2 := h4 a' k' w1 w3 (by omega)
        congr 1
        omega
end SK
