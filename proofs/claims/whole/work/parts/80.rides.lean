/-! how often all are sick: the reference -/
section RD
variable {E : zEv2} {s t n : Nat} {J J1 J2 : zzJ} {w w' : zVw} {x y v off : Int32} {a r i : Nat} {st : zS5}
abbrev zRr (J : zzJ) (st : zS5) (s : Nat) : Prop := zSe s (J.2 55) st.1 ∧ zSe s (J.2 56) st.2.1 ∧ zSe s (J.2 57) st.2.2.1 ∧ J.2 46 33 = st.2.2.2.1 ∧ J.2 46 34 = st.2.2.2.2
theorem zRr_lo {J J1 : zzJ} (h : zLow J J1) (r : zRr J st s) : zRr J1 st s := by
  unfold zRr
  rw [h.1 55 (by omega), h.1 56 (by omega), h.1 57 (by omega), h.2.1 33 (by omega), h.2.1 34 (by omega)]
  exact r
theorem zFrR.w5 {J : zzJ} {c k : Nat} {v : Int32} (h : 54 < c ∧ c < 59) : zFrR J (wI J c k v) := ⟨fun b hb h2 => wI_ne (by omega), fun j hj => by rw [wI_ne (by omega)], fun _ _ _ => rfl⟩
theorem tie5 {c k : Nat} {u : Int32} (hc : 54 < c ∧ c < 59) (ti : zTieV J w s) : zTieV (wI J c k u) w s := tieJ (fun b _ _ => wI_ne (by omega)) (fun k hk => by rw [wI_ne (by omega)]) ti
theorem zRx.w5 {c k : Nat} {u : Int32} (hc : 54 < c ∧ c < 59) (h : zRx E n s w J) : zRx E n s w (wI J c k u) := h.fr (zFrR.w5 hc) (tie5 hc h.1)
theorem zRx.w1 {k : Nat} {u : Int32} (hk : 14 < k ∧ k ≤ 39) (h : zRx E n s w J) : zRx E n s w (wI J 46 k u) := h.fr (zFrR.wr (by omega)) (tie1 (by omega) h.1)
abbrev zFr3 (J J1 : zzJ) : Prop := zFrR J J1 ∧ ∀ k, 34 < k → J1.2 46 k = J.2 46 k
theorem zFr3.rf {J : zzJ} : zFr3 J J := ⟨zFrR.rf, fun _ _ => rfl⟩
theorem zFr3.tr {J J1 J2 : zzJ} (h1 : zFr3 J J1) (h2 : zFr3 J1 J2) : zFr3 J J2 := ⟨h1.1.tr h2.1, fun k hk => (h2.2 k hk).trans (h1.2 k hk)⟩
theorem zFr3.w5 {J : zzJ} {c k : Nat} {v : Int32} (h : 54 < c ∧ c < 59) : zFr3 J (wI J c k v) := ⟨zFrR.w5 h, fun j _ => by rw [wI_ne (by omega)]⟩
theorem zFr3.wr {J : zzJ} {k : Nat} {v : Int32} (h : 15 ≤ k ∧ k ≤ 34) : zFr3 J (wI J 46 k v) := ⟨zFrR.wr (by omega), fun j _ => by rw [wI_g, if_neg (by omega)]⟩
theorem zLow.f3 {J J1 : zzJ} (h : zLow J J1) : zFr3 J J1 := ⟨h.fr, fun k hk => h.2.1 k (by omega)⟩
theorem m_rides190 {b m : Nat} (hm : m < 4000) (hs : s ≤ 8) (g : zGoodV w s) {J0 : zzJ} (c : zRx E n s w J0) (hr : zRr J0 st s) : ∃ J1, (fun kl => F_X7_rides_190 kl 4096 (nI b) off (nI m) 0 J0) = (fun kl => kl (nI b) off (nI (m + 1)) J1) ∧ zRx E n s w J1 ∧ zFr3 J0 J1 ∧ zRr J1 (zOff (nI m = off) st) s := by
  by_cases hoff : nI m = off
  · have e : zOff (nI m = off) st = (fun _ => 0, st.2) := if_pos hoff
    rw [e]
    refine zLoop (G := fun fu (p : Nat × zzJ) => fun kl => F_X7_rides_190 kl fu (nI b) off (nI m) (nI p.1) p.2) (P := fun k p => p.1 = k ∧ zRx E n s w p.2 ∧ zFr3 J0 p.2 ∧ (∀ j, j < s → p.2.2 55 j = if j < k then 0 else st.1 j) ∧ zSe s (p.2.2 56) st.2.1 ∧ zSe s (p.2.2 57) st.2.2.1 ∧ p.2.2 46 33 = st.2.2.2.1 ∧ p.2.2 46 34 = st.2.2.2.2) (Q := fun r => ∃ J1, r = (fun kl => kl (nI b) off (nI (m + 1)) J1) ∧ zRx E n s w J1 ∧ zFr3 J0 J1 ∧ zRr J1 (fun _ => 0, st.2) s) (s := s) ?_ s 0 (0, J0) (by omega) ⟨rfl, c, zFr3.rf, fun j hj => by rw [if_neg (by omega)]; exact hr.1 j hj, hr.2⟩ 4096 (by omega)
    rintro k ⟨k2, J'⟩ hk ⟨rfl, c', fr, h55, h56, h57, h33, h34⟩
    dsimp only at hk c' fr h55 h56 h57 h33 h34 ⊢
    have hmn := r_many g c'.1
    by_cases h : k2 < s
    · right
      refine ⟨h, (k2 + 1, wI J' 55 k2 0), ⟨rfl, zRx.w5 (by omega) c', fr.tr (zFr3.w5 (by omega)), fun j hj => ?_, fun j hj => ?_, fun j hj => ?_, ?_, ?_⟩, fun fu => ?_⟩
      · dsimp only
        rw [wI_g, h55 j hj]
        by_cases hj2 : j = k2
        · rw [if_pos hj2, if_pos (by omega)]
        · rw [if_neg hj2]
          by_cases hj3 : j < k2
          · rw [if_pos hj3, if_pos (by omega)]
          · rw [if_neg hj3, if_neg (by omega)]
      · dsimp only; rw [wI_ne (by omega)]; exact h56 j hj
      · dsimp only; rw [wI_ne (by omega)]; exact h57 j hj
      · dsimp only; rw [wI_ne (by omega)]; exact h33
      · dsimp only; rw [wI_ne (by omega)]; exact h34
      · funext kl
        rw [F_X7_rides_190, hmn, if_pos ((i_lts (by omega) (by omega)).2 h), if_pos hoff, if_pos (i_ix (by omega) (by omega)), i_cm (by omega), ← nI_succ]
    · left
      refine ⟨_, ⟨J', rfl, c', fr, fun j hj => ?_, h56, h57, h33, h34⟩, fun fu => ?_⟩
      · rw [h55 j hj, if_pos (by omega)]
      · funext kl
        rw [F_X7_rides_190, hmn, if_neg (fun q => h ((i_lts (by omega) (by omega)).1 q)), ← nI_succ]
  · have e : zOff (nI m = off) st = st := if_neg hoff
    rw [e]
    refine ⟨J0, ?_, c, zFr3.rf, hr⟩
    funext kl
    rw [F_X7_rides_190, if_neg hoff, ← nI_succ]
    split <;> rfl
theorem m_rides57 {b m : Nat} (hb : b ≤ 60) (hm : m < b) (g : zGoodV w s) (ht : w 0 3 = nI t) (htn : t < n) {J0 : zzJ} (c : zRx E n s w J0) (hr : zRr J0 st s) : ∃ J1, (fun kl => F_X7_rides_57 kl 4096 (nI b) off (nI m) 0 J0) = (fun kl => kl (nI b) off (nI (m + 1)) J1) ∧ zRx E n s w J1 ∧ zFr3 J0 J1 ∧ zRr J1 (zOff (nI m = off) (zMile (zQf E w t) (w 0 2) m 0 s st)) s := by
  have hs := g.1
  generalize hT : zMile (zQf E w t) (w 0 2) m 0 s st = T
  refine zLoop (G := fun fu (p : Nat × zzJ) => fun kl => F_X7_rides_57 kl fu (nI b) off (nI m) (nI p.1) p.2) (P := fun k p => p.1 = k ∧ (∃ st', zRr p.2 st' s ∧ zMile (zQf E w t) (w 0 2) m k (s - k) st' = T) ∧ zRx E n s w p.2 ∧ zFr3 J0 p.2) (Q := fun r => ∃ J1, r = (fun kl => kl (nI b) off (nI (m + 1)) J1) ∧ zRx E n s w J1 ∧ zFr3 J0 J1 ∧ zRr J1 (zOff (nI m = off) T) s) (s := s) ?_ s 0 (0, J0) (by omega) ⟨rfl, ⟨st, hr, hT⟩, c, zFr3.rf⟩ 4096 (by omega)
  rintro k ⟨k2, J'⟩ hk ⟨rfl, ⟨st', r', hP⟩, c', fr⟩
  dsimp only at hk r' hP c' fr ⊢
  have hmn := r_many g c'.1
  by_cases h : k2 < s
  · right
    have hx : zzIx (nI k2) 8 := i_ix (by omega) (by omega)
    have hc8 : (nI k2).toNatClampNeg = k2 := i_cm (by omega)
    rw [show s - k2 = (s - (k2 + 1)) + 1 by omega, zMile] at hP
    obtain ⟨J3, e3, l3⟩ := r_queasy (m := w 0 1 + nI m) g c'.1 h c'.2 ht htn
    have c3 := c'.lo l3
    have r3 := zRr_lo l3 r'
    have f3 := fr.tr l3.f3
    have q55 : J'.2 55 k2 = st'.1 k2 := r'.1 k2 h
    have hmile : J'.2 46 7 = w 0 1 := c'.1.2.2.1
    have e3' : F_X7_queasyOf (nI k2) (J'.2 46 7 + nI m) J' = some (zQf E w t m k2, J3) := by rw [hmile]; exact e3
    have start : ∀ (fu : Nat) kl, F_X7_rides_57 kl (fu + 1) (nI b) off (nI m) (nI k2) J' = (if (wI J3 55 k2 (st'.1 k2 + zQf E w t m k2)).2 46 8 < (wI J3 55 k2 (st'.1 k2 + zQf E w t m k2)).2 55 k2 then (if (wI (wI (wI (wI J3 55 k2 (st'.1 k2 + zQf E w t m k2)) 55 k2 0) 56 k2 ((wI (wI J3 55 k2 (st'.1 k2 + zQf E w t m k2)) 55 k2 0).2 56 k2 + 1)) 46 33 ((wI (wI (wI J3 55 k2 (st'.1 k2 + zQf E w t m k2)) 55 k2 0) 56 k2 ((wI (wI J3 55 k2 (st'.1 k2 + zQf E w t m k2)) 55 k2 0).2 56 k2 + 1)).2 46 33 + 1)).2 57 k2 = -1 then F_X7_rides_159 kl (F_X7_rides_57 kl fu) (nI b) off (nI m) (nI k2) (nI m) (nI k2) (wI (wI (wI (wI J3 55 k2 (st'.1 k2 + zQf E w t m k2)) 55 k2 0) 56 k2 ((wI (wI J3 55 k2 (st'.1 k2 + zQf E w t m k2)) 55 k2 0).2 56 k2 + 1)) 46 33 ((wI (wI (wI J3 55 k2 (st'.1 k2 + zQf E w t m k2)) 55 k2 0) 56 k2 ((wI (wI J3 55 k2 (st'.1 k2 + zQf E w t m k2)) 55 k2 0).2 56 k2 + 1)).2 46 33 + 1)) else F_X7_rides_159 kl (F_X7_rides_57 kl fu) (nI b) off (nI m) (nI k2) ((wI (wI (wI (wI J3 55 k2 (st'.1 k2 + zQf E w t m k2)) 55 k2 0) 56 k2 ((wI (wI J3 55 k2 (st'.1 k2 + zQf E w t m k2)) 55 k2 0).2 56 k2 + 1)) 46 33 ((wI (wI (wI J3 55 k2 (st'.1 k2 + zQf E w t m k2)) 55 k2 0) 56 k2 ((wI (wI J3 55 k2 (st'.1 k2 + zQf E w t m k2)) 55 k2 0).2 56 k2 + 1)).2 46 33 + 1)).2 57 k2) (nI k2) (wI (wI (wI (wI J3 55 k2 (st'.1 k2 + zQf E w t m k2)) 55 k2 0) 56 k2 ((wI (wI J3 55 k2 (st'.1 k2 + zQf E w t m k2)) 55 k2 0).2 56 k2 + 1)) 46 33 ((wI (wI (wI J3 55 k2 (st'.1 k2 + zQf E w t m k2)) 55 k2 0) 56 k2 ((wI (wI J3 55 k2 (st'.1 k2 + zQf E w t m k2)) 55 k2 0).2 56 k2 + 1)).2 46 33 + 1))) else F_X7_rides_57 kl fu (nI b) off (nI m) (nI (k2 + 1)) (wI J3 55 k2 (st'.1 k2 + zQf E w t m k2))) := by
      intro fu kl
      rw [F_X7_rides_57, hmn, if_pos ((i_lts (by omega) (by omega)).2 h), if_pos hx, e3', Option.bind_some]
      simp only [if_pos hx, hc8, q55]
      rw [← nI_succ]
    generalize hJ4 : wI J3 55 k2 (st'.1 k2 + zQf E w t m k2) = J4 at start
    have c4 : zRx E n s w J4 := by rw [← hJ4]; exact zRx.w5 (by omega) c3
    have f4 : zFr3 J0 J4 := by rw [← hJ4]; exact f3.tr (zFr3.w5 (by omega))
    have h48 : J4.2 46 8 = w 0 2 := c4.1.2.2.2.1
    have h455 : ∀ j, J4.2 55 j = if j = k2 then st'.1 k2 + zQf E w t m k2 else J3.2 55 j := fun j => by rw [← hJ4, wI_g]
    have h4o : ∀ p, p ≠ 55 → J4.2 p = J3.2 p := fun p hp => by rw [← hJ4, wI_ne hp]
    rw [h48, h455, if_pos rfl] at start
    by_cases hlt : w 0 2 < st'.1 k2 + zQf E w t m k2
    · have est : zStp (zQf E w t) (w 0 2) m k2 st' = (zUd st'.1 k2 0, zUd st'.2.1 k2 (st'.2.1 k2 + 1), zUd st'.2.2.1 k2 (if st'.2.2.1 k2 = -1 then nI m else st'.2.2.1 k2), st'.2.2.2.1 + 1, if st'.2.2.2.2 = -1 then nI k2 else st'.2.2.2.2) := if_pos hlt
      rw [est] at hP
      simp only [if_pos hlt] at start
      have v56 : (wI J4 55 k2 0).2 56 k2 = st'.2.1 k2 := by rw [wI_ne (by omega), h4o 56 (by omega)]; exact r3.2.1 k2 h
      rw [v56] at start
      have v33 : (wI (wI J4 55 k2 0) 56 k2 (st'.2.1 k2 + 1)).2 46 33 = st'.2.2.2.1 := by rw [wI_ne (by omega), wI_ne (by omega), h4o 46 (by omega)]; exact r3.2.2.2.1
      rw [v33] at start
      generalize hJ7 : wI (wI (wI J4 55 k2 0) 56 k2 (st'.2.1 k2 + 1)) 46 33 (st'.2.2.2.1 + 1) = J7 at start
      have c7 : zRx E n s w J7 := by rw [← hJ7]; exact zRx.w1 (by omega) (zRx.w5 (by omega) (zRx.w5 (by omega) c4))
      have f7 : zFr3 J0 J7 := by rw [← hJ7]; exact ((f4.tr (zFr3.w5 (by omega))).tr (zFr3.w5 (by omega))).tr (zFr3.wr (by omega))
      have o57 : J7.2 57 k2 = st'.2.2.1 k2 := by rw [← hJ7, wI_ne (by omega), wI_ne (by omega), wI_ne (by omega), h4o 57 (by omega)]; exact r3.2.2.1 k2 h
      have o34 : J7.2 46 34 = st'.2.2.2.2 := by rw [← hJ7, wI_g, if_neg (by omega), wI_ne (by omega), wI_ne (by omega), h4o 46 (by omega)]; exact r3.2.2.2.2
      generalize hf : (if st'.2.2.1 k2 = -1 then nI m else st'.2.2.1 k2) = fv at hP
      generalize hwv : (if st'.2.2.2.2 = -1 then nI k2 else st'.2.2.2.2) = wv at hP
      refine ⟨h, (k2 + 1, wI (wI J7 57 k2 fv) 46 34 wv), ⟨rfl, ⟨_, ⟨fun j hj => ?_, fun j hj => ?_, fun j hj => ?_, ?_, ?_⟩, hP⟩, zRx.w1 (by omega) (zRx.w5 (by omega) c7), (f7.tr (zFr3.w5 (by omega))).tr (zFr3.wr (by omega))⟩, fun fu => ?_⟩
      · dsimp only
        rw [wI_ne (by omega), wI_ne (by omega), ← hJ7, wI_ne (by omega), wI_ne (by omega), wI_g]
        unfold zUd
        by_cases hj2 : j = k2
        · rw [if_pos hj2, if_pos hj2]
        · rw [if_neg hj2, if_neg hj2, h455, if_neg hj2]; exact r3.1 j hj
      · dsimp only
        rw [wI_ne (by omega), wI_ne (by omega), ← hJ7, wI_ne (by omega), wI_g]
        unfold zUd
        by_cases hj2 : j = k2
        · rw [if_pos hj2, if_pos hj2]
        · rw [if_neg hj2, if_neg hj2, wI_ne (by omega), h4o 56 (by omega)]; exact r3.2.1 j hj
      · dsimp only
        rw [wI_ne (by omega), wI_g]
        unfold zUd
        by_cases hj2 : j = k2
        · rw [if_pos hj2, if_pos hj2]
        · rw [if_neg hj2, if_neg hj2, ← hJ7, wI_ne (by omega), wI_ne (by omega), wI_ne (by omega), h4o 57 (by omega)]; exact r3.2.2.1 j hj
      · dsimp only
        rw [wI_g, if_neg (by omega), wI_ne (by omega), ← hJ7, wI_g, if_pos rfl]
      · dsimp only
        rw [wI_g, if_pos rfl]
      · funext kl
        have e159 : ∀ t0 : Int32, t0 = fv → F_X7_rides_159 kl (F_X7_rides_57 kl fu) (nI b) off (nI m) (nI k2) t0 (nI k2) J7 = F_X7_rides_57 kl fu (nI b) off (nI m) (nI (k2 + 1)) (wI (wI J7 57 k2 fv) 46 34 wv) := by
          intro t0 h0
          have p34 : (wI J7 57 k2 fv).2 46 34 = st'.2.2.2.2 := by rw [wI_ne (by omega)]; exact o34
          unfold F_X7_rides_159
          rw [if_pos hx, hc8, h0, p34, ← hwv, ← nI_succ]
          by_cases hw1 : st'.2.2.2.2 = -1
          · rw [if_pos hw1, if_pos hw1]
          · rw [if_neg hw1, if_neg hw1]
        rw [start, o57]
        by_cases hf1 : st'.2.2.1 k2 = -1
        · rw [if_pos hf1]
          exact e159 _ (by rw [← hf, if_pos hf1])
        · rw [if_neg hf1]
          exact e159 _ (by rw [← hf, if_neg hf1])
    · have est : zStp (zQf E w t) (w 0 2) m k2 st' = (zUd st'.1 k2 (st'.1 k2 + zQf E w t m k2), st'.2.1, st'.2.2.1, st'.2.2.2.1, st'.2.2.2.2) := if_neg hlt
      rw [est] at hP
      simp only [if_neg hlt] at start
      refine ⟨h, (k2 + 1, J4), ⟨rfl, ⟨_, ⟨fun j hj => ?_, fun j hj => ?_, fun j hj => ?_, ?_, ?_⟩, hP⟩, c4, f4⟩, fun fu => by funext kl; exact start fu kl⟩
      · dsimp only
        rw [h455]
        unfold zUd
        by_cases hj2 : j = k2
        · rw [if_pos hj2, if_pos hj2]
        · rw [if_neg hj2, if_neg hj2]; exact r3.1 j hj
      · dsimp only
        rw [h4o 56 (by omega)]; exact r3.2.1 j hj
      · dsimp only
        rw [h4o 57 (by omega)]; exact r3.2.2.1 j hj
      · dsimp only
        rw [h4o 46 (by omega)]; exact r3.2.2.2.1
      · dsimp only
        rw [h4o 46 (by omega)]; exact r3.2.2.2.2
  · left
    rw [show s - k2 = 0 by omega] at hP
    have hP : st' = T := hP
    subst hP
    obtain ⟨J3, e3, c3, f3, r3⟩ := m_rides190 (b := b) (m := m) (off := off) (by omega) hs g c' r'
    refine ⟨_, ⟨J3, rfl, c3, fr.tr f3, r3⟩, fun fu => ?_⟩
    funext kl
    rw [F_X7_rides_57, hmn, if_neg (fun q => h ((i_lts (by omega) (by omega)).1 q))]
    exact congrFun e3 kl
theorem m_rides {b : Nat} (hb : b ≤ 60) (g : zGoodV w s) (ht : w 0 3 = nI t) (htn : t < n) {J0 : zzJ} (c : zRx E n s w J0) : ∃ J1, F_X7_rides (nI b) off J0 = some J1 ∧ zRx E n s w J1 ∧ zFr3 J0 J1 ∧ zRr J1 (zRun (zQf E w t) (w 0 2) s off 0 b zS0) s := by
  have hs := g.1
  generalize hT : zRun (zQf E w t) (w 0 2) s off 0 b zS0 = T
  have big : ∀ Js : zzJ, zRx E n s w Js → zRr Js zS0 s → ∃ J1, F_X7_rides_49 4096 (nI b) off 0 Js = some J1 ∧ zRx E n s w J1 ∧ zFr3 Js J1 ∧ zRr J1 T s := by
    intro Js cs rs
    refine zLoop (G := fun fu (p : Nat × zzJ) => F_X7_rides_49 fu (nI b) off (nI p.1) p.2) (P := fun k p => p.1 = k ∧ (∃ st', zRr p.2 st' s ∧ zRun (zQf E w t) (w 0 2) s off k (b - k) st' = T) ∧ zRx E n s w p.2 ∧ zFr3 Js p.2) (Q := fun r => ∃ J1, r = some J1 ∧ zRx E n s w J1 ∧ zFr3 Js J1 ∧ zRr J1 T s) (s := b) ?_ b 0 (0, Js) (by omega) ⟨rfl, ⟨zS0, rs, hT⟩, cs, zFr3.rf⟩ 4096 (by omega)
    rintro k ⟨k2, J'⟩ hk ⟨rfl, ⟨st', r', hP⟩, c', fr⟩
    dsimp only at hk r' hP c' fr ⊢
    by_cases h : k2 < b
    · right
      rw [show b - k2 = (b - (k2 + 1)) + 1 by omega, zRun] at hP
      obtain ⟨J3, e3, c3, f3, r3⟩ := m_rides57 (off := off) hb h g ht htn c' r'
      refine ⟨h, (k2 + 1, J3), ⟨rfl, ⟨_, r3, hP⟩, c3, fr.tr f3⟩, fun fu => ?_⟩
      rw [F_X7_rides_49, if_pos ((i_lts (by omega) (by omega)).2 h)]
      exact congrFun e3 _
    · left
      rw [show b - k2 = 0 by omega] at hP
      have hP : st' = T := hP
      subst hP
      refine ⟨_, ⟨J', rfl, c', fr, r'⟩, fun fu => ?_⟩
      rw [F_X7_rides_49, if_neg (fun q => h ((i_lts (by omega) (by omega)).1 q))]
  unfold F_X7_rides
  generalize hJs : wI (wI J0 46 33 0) 46 34 (-1) = Js
  have cs : zRx E n s w Js := by rw [← hJs]; exact zRx.w1 (by omega) (zRx.w1 (by omega) c)
  have fs : zFr3 J0 Js := by rw [← hJs]; exact (zFr3.wr (by omega)).tr (zFr3.wr (by omega))
  have s33 : Js.2 46 33 = 0 := by rw [← hJs]; simp [wI_get]
  have s34 : Js.2 46 34 = -1 := by rw [← hJs]; simp [wI_get]
  have lp : ∃ J1, F_X7_rides_12 4096 (nI b) off 0 Js = some J1 ∧ zRx E n s w J1 ∧ zFr3 Js J1 ∧ zRr J1 T s := by
    refine zLoop (G := fun fu (p : Nat × zzJ) => F_X7_rides_12 fu (nI b) off (nI p.1) p.2) (P := fun k p => p.1 = k ∧ zRx E n s w p.2 ∧ zFr3 Js p.2 ∧ (∀ j, j < k → p.2.2 55 j = 0 ∧ p.2.2 56 j = 0 ∧ p.2.2 57 j = -1) ∧ p.2.2 46 33 = 0 ∧ p.2.2 46 34 = -1) (Q := fun r => ∃ J1, r = some J1 ∧ zRx E n s w J1 ∧ zFr3 Js J1 ∧ zRr J1 T s) (s := s) ?_ s 0 (0, Js) (by omega) ⟨rfl, cs, zFr3.rf, fun j hj => absurd hj (by omega), s33, s34⟩ 4096 (by omega)
    rintro k ⟨k2, J'⟩ hk ⟨rfl, c', fr, hz, h33, h34⟩
    dsimp only at hk c' fr hz h33 h34 ⊢
    have hmn := r_many g c'.1
    by_cases h : k2 < s
    · right
      have hx : zzIx (nI k2) 8 := i_ix (by omega) (by omega)
      refine ⟨h, (k2 + 1, wI (wI (wI J' 55 k2 0) 56 k2 0) 57 k2 (-1)), ⟨rfl, zRx.w5 (by omega) (zRx.w5 (by omega) (zRx.w5 (by omega) c')), ((fr.tr (zFr3.w5 (by omega))).tr (zFr3.w5 (by omega))).tr (zFr3.w5 (by omega)), fun j hj => ?_, ?_, ?_⟩, fun fu => ?_⟩
      · dsimp only
        rw [wI_ne (show (55 : Nat) ≠ 57 by omega), wI_ne (show (55 : Nat) ≠ 56 by omega), wI_ne (show (56 : Nat) ≠ 57 by omega), wI_g, wI_g, wI_g, wI_ne (show (56 : Nat) ≠ 55 by omega), wI_ne (show (57 : Nat) ≠ 56 by omega), wI_ne (show (57 : Nat) ≠ 55 by omega)]
        by_cases hj2 : j = k2
        · rw [if_pos hj2, if_pos hj2, if_pos hj2]
          exact ⟨rfl, rfl, rfl⟩
        · rw [if_neg hj2, if_neg hj2, if_neg hj2]
          exact hz j (by omega)
      · dsimp only; rw [wI_ne (by omega), wI_ne (by omega), wI_ne (by omega)]; exact h33
      · dsimp only; rw [wI_ne (by omega), wI_ne (by omega), wI_ne (by omega)]; exact h34
      · rw [F_X7_rides_12, hmn, if_pos ((i_lts (by omega) (by omega)).2 h), if_pos hx, if_pos hx, if_pos hx, i_cm (by omega), ← nI_succ]
    · left
      obtain ⟨J3, e3, c3, f3, r3⟩ := big J' c' ⟨fun j hj => (hz j (by omega)).1, fun j hj => (hz j (by omega)).2.1, fun j hj => (hz j (by omega)).2.2, h33, h34⟩
      refine ⟨_, ⟨J3, rfl, c3, fr.tr f3, r3⟩, fun fu => ?_⟩
      rw [F_X7_rides_12, hmn, if_neg (fun q => h ((i_lts (by omega) (by omega)).1 q))]
      exact e3
  obtain ⟨J1, e1, c1, f1, r1⟩ := lp
  exact ⟨J1, e1, c1, fs.tr f1, r1⟩
end RD
