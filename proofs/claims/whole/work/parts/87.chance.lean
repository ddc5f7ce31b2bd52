/-! chance -/
def zJz : zzJ := (fun _ _ => 0, fun _ _ => 0)
theorem low_J : ∀ (f : Nat) (a b c d : Int32) (J : zzJ), F_X6_lowered_2 f a b c d J = (F_X6_lowered_2 f a b c d zJz).map (fun r => (r.1, J)) := by
  intro f
  induction f with
  | zero => intros; rfl
  | succ f ih =>
    intro a b c d J
    rw [F_X6_lowered_2, F_X6_lowered_2]
    by_cases h1 : (1 : Int32) < d
    · simp only [if_pos h1]
      by_cases h0 : ¬ d = 0
      · simp only [if_pos h0]
        by_cases h2 : zRem b d = 0
        · simp only [if_pos h2]
          by_cases h3 : zRem c d = 0
          · simp only [if_pos h3]; rfl
          · simp only [if_neg h3]; exact ih _ _ _ _ _
        · simp only [if_neg h2]; exact ih _ _ _ _ _
      · simp only [if_neg h0]; rfl
    · simp only [if_neg h1]; rfl
theorem c81_J : ∀ (f : Nat) (a b : Int32) (c d e : Int64) (J : zzJ), F_X7_chance_81 f a b c d e J = (F_X7_chance_81 f a b c d e zJz).map (fun r => (r.1, J)) := by
  intro f
  induction f with
  | zero => intros; rfl
  | succ f ih =>
    intro a b c d e J
    rw [F_X7_chance_81, F_X7_chance_81]
    by_cases h1 : lg_cmp e 0 = 0
    · rw [if_pos h1, if_pos h1]
      by_cases h2 : b = 0
      · rw [if_pos h2, if_pos h2]
        by_cases h3 : ¬ d = 0
        · rw [if_pos h3, if_pos h3]; rfl
        · rw [if_neg h3, if_neg h3]; rfl
      · rw [if_neg h2, if_neg h2]
        by_cases h3 : ¬ d = 0
        · rw [if_pos h3, if_pos h3]; rfl
        · rw [if_neg h3, if_neg h3]; rfl
    · rw [if_neg h1, if_neg h1]
      by_cases h3 : ¬ e = 0
      · rw [if_pos h3, if_pos h3]; exact ih _ _ _ _ _ _
      · rw [if_neg h3, if_neg h3]; rfl
def zLw0 (c n : Nat) : Option Int64 := (F_X6_lowered_2 64 (nI c) (nI c) (nI n) (nI n) zJz).map (fun r => r.1.toInt64)
def zLw1 (c n : Nat) : Option Int64 := (F_X6_lowered_2 64 (nI n) (nI c) (nI n) (nI n) zJz).map (fun r => r.1.toInt64)
def zCl (p c n : Nat) : Option Int64 := (F_X7_chance_81 64 (nI n) (nI p) (lN c) (lN c) (lN n) zJz).map (fun r => r.1)
def zChk (n c : Nat) : Bool := (zLw0 c n).isSome && decide (zLw0 c n = zCl 0 c n) && ((zLw1 c n).isSome && decide (zLw1 c n = zCl 1 c n))
theorem low_all0 : ∀ n, n < 21 → ∀ c, c < 21 → 0 < n → c ≤ n → zChk n c = true := by decide +kernel
theorem low_all (n : Nat) (hn : n < 21) (c : Nat) (hc : c < 21) (h0 : 0 < n) (hcn : c ≤ n) : (zLw0 c n).isSome = true ∧ zLw0 c n = zCl 0 c n ∧ (zLw1 c n).isSome = true ∧ zLw1 c n = zCl 1 c n := by
  have h := low_all0 n hn c hc h0 hcn
  unfold zChk at h
  rw [Bool.and_eq_true, Bool.and_eq_true, Bool.and_eq_true, decide_eq_true_eq, decide_eq_true_eq] at h
  exact ⟨h.1.1, h.1.2, h.2.1, h.2.2⟩
theorem low_more : ∀ (f g : Nat) (a b c d : Int32) (J : zzJ) (r : Int32 × zzJ), F_X6_lowered_2 f a b c d J = some r → F_X6_lowered_2 (f + g) a b c d J = some r := by
  intro f
  induction f with
  | zero => intro g a b c d J r h; cases h
  | succ f ih =>
    intro g a b c d J r h
    rw [show f + 1 + g = f + g + 1 by omega, F_X6_lowered_2]
    rw [F_X6_lowered_2] at h
    by_cases h1 : (1 : Int32) < d
    · rw [if_pos h1] at h ⊢
      by_cases h0 : ¬ d = 0
      · rw [if_pos h0] at h ⊢
        by_cases h2 : zRem b d = 0
        · rw [if_pos h2, if_pos h0] at h ⊢
          by_cases h3 : zRem c d = 0
          · rw [if_pos h3] at h ⊢; exact h
          · rw [if_neg h3] at h ⊢; exact ih _ _ _ _ _ _ _ h
        · rw [if_neg h2] at h ⊢; exact ih _ _ _ _ _ _ _ h
      · rw [if_neg h0] at h ⊢; exact h
    · rw [if_neg h1] at h ⊢; exact h
theorem c81_more : ∀ (f g : Nat) (a b : Int32) (c d e : Int64) (J : zzJ) (r : Int64 × zzJ), F_X7_chance_81 f a b c d e J = some r → F_X7_chance_81 (f + g) a b c d e J = some r := by
  intro f
  induction f with
  | zero => intro g a b c d e J r h; cases h
  | succ f ih =>
    intro g a b c d e J r h
    rw [show f + 1 + g = f + g + 1 by omega, F_X7_chance_81]
    rw [F_X7_chance_81] at h
    by_cases h1 : lg_cmp e 0 = 0
    · rw [if_pos h1] at h ⊢; exact h
    · rw [if_neg h1] at h ⊢
      by_cases h3 : ¬ e = 0
      · rw [if_pos h3] at h ⊢; exact ih _ _ _ _ _ _ _ _ h
      · rw [if_neg h3] at h ⊢; exact h
theorem low_end {c n : Nat} (J : zzJ) {v : Int64} (h : zLw0 c n = some v) : ∃ u : Int32, F_X6_lowered (nI c) (nI c) (nI n) J = some (u, J) ∧ u.toInt64 = v := by
  unfold zLw0 at h
  cases hq : F_X6_lowered_2 64 (nI c) (nI c) (nI n) (nI n) zJz with
  | none => rw [hq] at h; cases h
  | some r =>
    rw [hq] at h
    have h64 := low_J 64 (nI c) (nI c) (nI n) (nI n) J
    rw [hq] at h64
    refine ⟨r.1, low_more 64 4032 _ _ _ _ J _ h64, ?_⟩
    simpa using h
theorem low_end1 {c n : Nat} (J : zzJ) {v : Int64} (h : zLw1 c n = some v) : ∃ u : Int32, F_X6_lowered (nI n) (nI c) (nI n) J = some (u, J) ∧ u.toInt64 = v := by
  unfold zLw1 at h
  cases hq : F_X6_lowered_2 64 (nI n) (nI c) (nI n) (nI n) zJz with
  | none => rw [hq] at h; cases h
  | some r =>
    rw [hq] at h
    have h64 := low_J 64 (nI n) (nI c) (nI n) (nI n) J
    rw [hq] at h64
    refine ⟨r.1, low_more 64 4032 _ _ _ _ J _ h64, ?_⟩
    simpa using h
theorem c81_end {p c n : Nat} (J : zzJ) {v : Int64} (h : zCl p c n = some v) : F_X7_chance_81 4096 (nI n) (nI p) (lN c) (lN c) (lN n) J = some (v, J) := by
  unfold zCl at h
  cases hq : F_X7_chance_81 64 (nI n) (nI p) (lN c) (lN c) (lN n) zJz with
  | none => rw [hq] at h; cases h
  | some r =>
    rw [hq] at h
    have h64 := c81_J 64 (nI n) (nI p) (lN c) (lN c) (lN n) J
    rw [hq] at h64
    have := c81_more 64 4032 _ _ _ _ _ J _ h64
    rw [show v = r.1 by simpa using h.symm]
    exact this
def zHits (D : Nat → Int32) (d : Int32) : Nat → Nat
  | 0 => 0
  | k + 1 => if d < D k then zHits D d k else zHits D d k + 1
theorem zHits_le (D : Nat → Int32) (d : Int32) : ∀ k, zHits D d k ≤ k := by
  intro k
  induction k with
  | zero => exact Nat.le_refl 0
  | succ k ih => rw [zHits]; split <;> omega
section CN
variable {L : Nat} {xs : Nat → Int32} {E : zEv2} {s t n z : Nat} {J J1 J2 : zzJ} {w w' : zVw} {x y v off : Int32} {a r i h c k p : Nat}
theorem lN_s (a : Nat) : lN a + 1 = lN (a + 1) := (Int64.ofNat_add a 1).symm
theorem t_chance {b p : Nat} (hb : b < 21) (hb0 : 0 < b) (hp : p < 2) (g : zGoodV w s) (ht : w 0 3 = nI t) (htn : t < n) {J0 : zzJ} (c : zCx E n w J0) (x d : Int32) {v : Int64} (hv : zCl p (zHits (fun i => zDn E w t s (x + nI i)) d b) b = some v) : ∃ J1, F_X6_chance_37 4096 x (nI b) (nI p) d 0 0 J0 = some (v, J1) ∧ zFrC J0 J1 := by
  refine zLoop (G := fun fu (q : Nat × zzJ) => F_X6_chance_37 fu x (nI b) (nI p) d (nI (zHits (fun i => zDn E w t s (x + nI i)) d q.1)) (nI q.1) q.2) (P := fun k q => q.1 = k ∧ zFrC J0 q.2) (Q := fun r => ∃ J1, r = some (v, J1) ∧ zFrC J0 J1) (s := b) ?_ b 0 (0, J0) (by omega) ⟨rfl, zFrC.rf⟩ 4096 (by omega)
  rintro k ⟨k2, J'⟩ hk ⟨rfl, fr⟩
  dsimp only at hk fr ⊢
  by_cases hlt : k2 < b
  · right
    obtain ⟨J3, e3, f3⟩ := t_drawn g ht htn (c.fr fr) (x + nI k2)
    refine ⟨hlt, (k2 + 1, J3), ⟨rfl, fr.tr f3⟩, fun fu => ?_⟩
    rw [F_X6_chance_37, if_pos ((i_lts (by omega) (by omega)).2 hlt), e3, Option.bind_some, ← nI_succ, zHits]
    dsimp only
    by_cases hd : d < zDn E w t s (x + nI k2)
    · rw [if_pos hd, if_pos hd]
    · rw [if_neg hd, if_neg hd, nI_1]
  · left
    obtain rfl : k2 = b := by omega
    have hc := zHits_le (fun i => zDn E w t s (x + nI i)) d k2
    obtain ⟨q1, q2, q3, q4⟩ := low_all k2 hb (zHits (fun i => zDn E w t s (x + nI i)) d k2) (by omega) hb0 hc
    refine ⟨_, ⟨J', rfl, fr⟩, fun fu => ?_⟩
    rw [F_X6_chance_37, if_neg (fun q => hlt ((i_lts (by omega) (by omega)).1 q))]
    rcases (show p = 0 ∨ p = 1 by omega) with rfl | rfl
    · obtain ⟨u, eu, hu⟩ := low_end J' (q2.trans hv)
      rw [if_pos (show nI 0 = (0 : Int32) from rfl), eu, Option.bind_some]
      dsimp only
      rw [hu]
    · obtain ⟨u, eu, hu⟩ := low_end1 J' (q4.trans hv)
      rw [if_neg (show ¬ nI 1 = (0 : Int32) from n10), eu, Option.bind_some]
      dsimp only
      rw [hu]
theorem m_chance {b p : Nat} (hb : b < 21) (hb0 : 0 < b) (g : zGoodV w s) (ht : w 0 3 = nI t) (htn : t < n) {J0 : zzJ} (c : zRx E n s w J0) (x d : Int32) {v : Int64} (hv : zCl p (zHits (fun i => zDn E w t s (x + nI i)) d b) b = some v) : ∃ J1, F_X7_chance_38 4096 x (nI b) (nI p) d 0 0 J0 = some (v, J1) ∧ zRx E n s w J1 ∧ zFrR J0 J1 := by
  refine zLoop (G := fun fu (q : Nat × zzJ) => F_X7_chance_38 fu x (nI b) (nI p) d (lN (zHits (fun i => zDn E w t s (x + nI i)) d q.1)) (nI q.1) q.2) (P := fun k q => q.1 = k ∧ zRx E n s w q.2 ∧ zFrR J0 q.2) (Q := fun r => ∃ J1, r = some (v, J1) ∧ zRx E n s w J1 ∧ zFrR J0 J1) (s := b) ?_ b 0 (0, J0) (by omega) ⟨rfl, c, zFrR.rf⟩ 4096 (by omega)
  rintro k ⟨k2, J'⟩ hk ⟨rfl, c', fr⟩
  dsimp only at hk c' fr ⊢
  by_cases hlt : k2 < b
  · right
    obtain ⟨J3, e3, c3, f3⟩ := m_dinBy g ht htn c' (x + nI k2)
    refine ⟨hlt, (k2 + 1, J3), ⟨rfl, c3, fr.tr f3⟩, fun fu => ?_⟩
    rw [F_X7_chance_38, if_pos ((i_lts (by omega) (by omega)).2 hlt), e3, Option.bind_some, ← nI_succ, zHits]
    dsimp only
    by_cases hd : d < zDn E w t s (x + nI k2)
    · rw [if_pos hd, if_pos hd, Int64.add_zero]
    · rw [if_neg hd, if_neg hd, lN_s]
  · left
    obtain rfl : k2 = b := by omega
    refine ⟨_, ⟨J', rfl, c', fr⟩, fun fu => ?_⟩
    rw [F_X7_chance_38, if_neg (fun q => hlt ((i_lts (by omega) (by omega)).1 q)), nI_l (by omega)]
    exact c81_end J' hv
theorem c_chance {b : Int32} (I : zInv L xs E s t n z J) : zAns L xs (F_X6_chance x b y) (F_X7_chance x b y) J := by
  obtain ⟨g, h8, ht, htn, h4, hC, hR⟩ := inv_d I
  have e1 : (1 : Int32).toInt = 1 := rfl
  have e20 : (20 : Int32).toInt = 20 := rfl
  by_cases hb : 1 ≤ b.toInt ∧ b.toInt ≤ 20
  · obtain ⟨k, hk, rfl⟩ := i_upto (x := b) (m := 20) (by omega) (by omega)
    have hk1 : 0 < k := by rw [i_nI (by omega)] at hb; omega
    by_cases hy : 0 ≤ y.toInt ∧ y.toInt ≤ 1
    · obtain ⟨p, hp, rfl⟩ := i_upto (x := y) (m := 1) hy (by omega)
      have c : zCx E n (zW 7 J) J := ⟨zVe.rf, hC⟩
      obtain ⟨Jd, ed, sd⟩ := t_din zC7 c.1 g.2.1 h8 ht htn hC
      generalize hd : zDin E (zW 7 J) t s = d at ed
      have hc := zHits_le (fun i => zDn E (zW 7 J) t s (x + nI i)) d k
      obtain ⟨q1, q2, q3, q4⟩ := low_all k (by omega) (zHits (fun i => zDn E (zW 7 J) t s (x + nI i)) d k) (by omega) hk1 hc
      obtain ⟨v, hv⟩ : ∃ v, zCl p (zHits (fun i => zDn E (zW 7 J) t s (x + nI i)) d k) k = some v := by
        rcases (show p = 0 ∨ p = 1 by omega) with rfl | rfl
        · rw [← q2]; exact Option.isSome_iff_exists.1 q1
        · rw [← q4]; exact Option.isSome_iff_exists.1 q3
      obtain ⟨J2, e2, f2⟩ := t_chance (by omega) hk1 (by omega) g ht htn (c.fr (sd.fr (Or.inl rfl))) x d hv
      have eC : F_X6_chance x (nI k) (nI p) J = F_X6_chance_37 4096 x (nI k) (nI p) d 0 0 Jd := by
        unfold F_X6_chance
        rw [if_neg (by rw [i_lt]; omega), if_neg (by rw [i_lt]; omega), b_01, Option.bind_some, zOne_t hy]
        refine (if_neg n10).trans ?_
        dsimp only
        rw [ed, Option.bind_some]
      refine zAns.q I v ⟨J2, eC.trans e2, (sd.fr (Or.inl rfl)).tr f2⟩ (fun J1 I1 ti => ?_)
      have c0 : zRx E n s (zW 7 J) J1 := ⟨ti, (inv_d I1).2.2.2.2.2.2⟩
      obtain ⟨J3, e3, l3⟩ := r_din g ti c0.2 ht htn
      obtain ⟨J4, e4, c4, f4⟩ := m_chance (by omega) hk1 g ht htn (c0.lo l3) x d hv
      refine ⟨J4, ?_, l3.fr.tr f4, c4.1⟩
      unfold F_X7_chance
      rw [b_inI, Option.bind_some, zOne_t (by exact hb)]
      refine (if_neg n10).trans ?_
      dsimp only
      rw [b_inI, Option.bind_some, zOne_t (by exact hy)]
      refine (if_neg n10).trans ?_
      dsimp only
      rw [e3, Option.bind_some]
      dsimp only
      rw [show zAcc (zNoise E (zW 7 J) t) 0 0 s = d from hd]
      exact e4
    · refine zAns.no (v := -4611686018427387904) I ?_ ?_
      · unfold F_X6_chance
        rw [if_neg (by rw [i_lt]; omega), if_neg (by rw [i_lt]; omega), b_01, Option.bind_some, zOne_f hy]
        exact if_pos rfl
      · unfold F_X7_chance
        rw [b_inI, Option.bind_some, zOne_t (by exact hb)]
        refine (if_neg n10).trans ?_
        dsimp only
        rw [b_inI, Option.bind_some, zOne_f (by exact hy)]
        exact if_pos rfl
  · refine zAns.no (v := -4611686018427387904) I ?_ ?_
    · unfold F_X6_chance
      by_cases h1 : b.toInt < 1
      · rw [if_pos (by rw [i_lt]; omega)]
      · rw [if_neg (by rw [i_lt]; omega), if_pos (by rw [i_lt]; omega)]
    · unfold F_X7_chance
      rw [b_inI, Option.bind_some, zOne_f (by exact hb)]
      exact if_pos rfl
end CN
