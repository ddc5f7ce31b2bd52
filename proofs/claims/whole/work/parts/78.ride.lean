/-! miles: what comes of a ride -/
abbrev zS5 : Type := (Nat → Int32) × (Nat → Int32) × (Nat → Int32) × Int32 × Int32
def zUd (f : Nat → Int32) (p : Nat) (v : Int32) : Nat → Int32 := fun j => if j = p then v else f j
def zStp (q : Nat → Nat → Int32) (lim : Int32) (m p : Nat) (st : zS5) : zS5 :=
  if lim < st.1 p + q m p then (zUd st.1 p 0, zUd st.2.1 p (st.2.1 p + 1), zUd st.2.2.1 p (if st.2.2.1 p = -1 then nI m else st.2.2.1 p), st.2.2.2.1 + 1, if st.2.2.2.2 = -1 then nI p else st.2.2.2.2) else (zUd st.1 p (st.1 p + q m p), st.2.1, st.2.2.1, st.2.2.2.1, st.2.2.2.2)
def zMile (q : Nat → Nat → Int32) (lim : Int32) (m : Nat) : Nat → Nat → zS5 → zS5
  | _, 0, st => st
  | p, e + 1, st => zMile q lim m (p + 1) e (zStp q lim m p st)
def zOff (c : Prop) [Decidable c] (st : zS5) : zS5 := if c then (fun _ => 0, st.2) else st
def zRun (q : Nat → Nat → Int32) (lim : Int32) (s : Nat) (off : Int32) : Nat → Nat → zS5 → zS5
  | _, 0, st => st
  | m, e + 1, st => zRun q lim s off (m + 1) e (zOff (nI m = off) (zMile q lim m 0 s st))
def zS0 : zS5 := (fun _ => 0, fun _ => 0, fun _ => -1, 0, -1)
/-- what holds on the way -/
abbrev zSg (st : zS5) (s m p : Nat) : Prop :=
  (∀ j, j < s → ∃ c, (c ≤ m ∨ (c ≤ m + 1 ∧ j < p)) ∧ st.2.1 j = nI c ∧ (c = 0 ↔ st.2.2.1 j = -1)) ∧
  (∀ j, j < s → st.2.2.1 j = -1 ∨ ∃ k, st.2.2.1 j = nI k ∧ (k < m ∨ (k = m ∧ j < p))) ∧
  ((st.2.2.2.2 = -1 ∧ ∀ j, j < s → st.2.2.1 j = -1) ∨ ∃ a k, a < s ∧ st.2.2.2.2 = nI a ∧ st.2.2.1 a = nI k ∧ (k < m ∨ (k = m ∧ a < p)) ∧ ∀ j k', j < s → st.2.2.1 j = nI k' → k' < 1000 → k < k' ∨ (k = k' ∧ a ≤ j))
section RI
variable {s t n m p : Nat} {q : Nat → Nat → Int32} {lim off : Int32} {st : zS5}
theorem zUd_s {f : Nat → Int32} {p : Nat} {v : Int32} : zUd f p v p = v := if_pos rfl
theorem zUd_o {f : Nat → Int32} {p j : Nat} {v : Int32} (h : j ≠ p) : zUd f p v j = f j := if_neg h
theorem zSg_step (hm : m < 100) (hp : p < s) (hs : s ≤ 8) (h : zSg st s m p) : zSg (zStp q lim m p st) s m (p + 1) := by
  obtain ⟨h1, h2, h3⟩ := h
  unfold zStp
  by_cases hl : lim < st.1 p + q m p
  · rw [if_pos hl]
    unfold zSg
    dsimp only
    refine ⟨fun j hj => ?_, fun j hj => ?_, ?_⟩
    · by_cases hjp : j = p
      · subst hjp
        obtain ⟨c, hc, e, hz⟩ := h1 j hj
        refine ⟨c + 1, Or.inr ⟨by omega, by omega⟩, ?_, ?_⟩
        · rw [zUd_s, e, nI_1]
        · rw [zUd_s]
          refine ⟨fun e => absurd e (by omega), fun e => ?_⟩
          split at e
          · exact absurd e (i_nm1 (by omega))
          · next h => exact absurd e h
      · obtain ⟨c, hc, e, hz⟩ := h1 j hj
        refine ⟨c, by omega, ?_, ?_⟩
        · rw [zUd_o hjp]; exact e
        · rw [zUd_o hjp]; exact hz
    · by_cases hjp : j = p
      · subst hjp
        right
        rw [zUd_s]
        by_cases he : st.2.2.1 j = -1
        · rw [if_pos he]
          exact ⟨m, rfl, Or.inr ⟨rfl, by omega⟩⟩
        · rw [if_neg he]
          obtain ⟨k, a, b⟩ := (h2 j hj).resolve_left he
          exact ⟨k, a, by omega⟩
      · rw [zUd_o hjp]
        exact (h2 j hj).imp id (fun ⟨k, a, b⟩ => ⟨k, a, by omega⟩)
    · right
      rcases h3 with ⟨hw, hn⟩ | ⟨a, k, ha, hw, hf, hk, hmin⟩
      · rw [hw, if_pos rfl]
        refine ⟨p, m, hp, rfl, ?_, Or.inr ⟨rfl, by omega⟩, fun j k' hj e hk' => ?_⟩
        · rw [zUd_s, if_pos (hn p hp)]
        · by_cases hjp : j = p
          · subst hjp
            rw [zUd_s, if_pos (hn j hp)] at e
            have := i_inj (by omega) (by omega) e
            omega
          · rw [zUd_o hjp, hn j hj] at e
            exact absurd e.symm (i_nm1 (by omega))
      · rw [hw, if_neg (i_nm1 (by omega))]
        refine ⟨a, k, ha, rfl, ?_, by omega, fun j k' hj e hk' => ?_⟩
        · by_cases hap : a = p
          · subst hap
            rw [zUd_s, if_neg (by rw [hf]; exact i_nm1 (by omega))]
            exact hf
          · rw [zUd_o hap]; exact hf
        · by_cases hjp : j = p
          · subst hjp
            rw [zUd_s] at e
            by_cases he : st.2.2.1 j = -1
            · rw [if_pos he] at e
              have := i_inj (by omega) (by omega) e
              omega
            · rw [if_neg he] at e
              exact hmin j k' hj e hk'
          · rw [zUd_o hjp] at e
            exact hmin j k' hj e hk'
  · rw [if_neg hl]
    refine ⟨fun j hj => ?_, fun j hj => ?_, ?_⟩
    · obtain ⟨c, hc, e, hz⟩ := h1 j hj
      exact ⟨c, by omega, e, hz⟩
    · exact (h2 j hj).imp id (fun ⟨k, a, b⟩ => ⟨k, a, by omega⟩)
    · exact h3.imp id (fun ⟨a, k, ha, hw, hf, hk, hmin⟩ => ⟨a, k, ha, hw, hf, by omega, hmin⟩)
theorem zSg_mile (hm : m < 100) (hs : s ≤ 8) : ∀ (e p : Nat) (st : zS5), p + e = s → zSg st s m p → zSg (zMile q lim m p e st) s m s := by
  intro e
  induction e with
  | zero => intro p st hp h; have : p = s := by omega
            subst this; exact h
  | succ e ih => intro p st hp h; exact ih (p + 1) _ (by omega) (zSg_step hm (by omega) hs h)
theorem zSg_next {c : Prop} [Decidable c] (h : zSg st s m s) : zSg (zOff c st) s (m + 1) 0 := by
  have e : (zOff c st).2 = st.2 := by unfold zOff; split <;> rfl
  obtain ⟨h1, h2, h3⟩ := h
  unfold zSg
  rw [e]
  refine ⟨fun j hj => ?_, fun j hj => ?_, ?_⟩
  · obtain ⟨c, hc, e, hz⟩ := h1 j hj
    exact ⟨c, by omega, e, hz⟩
  · exact (h2 j hj).imp id (fun ⟨k, a, b⟩ => ⟨k, a, by omega⟩)
  · exact h3.imp id (fun ⟨a, k, ha, hw, hf, hk, hmin⟩ => ⟨a, k, ha, hw, hf, by omega, hmin⟩)
theorem zSg_run (hs : s ≤ 8) : ∀ (e m : Nat) (st : zS5), m + e ≤ 60 → zSg st s m 0 → zSg (zRun q lim s off m e st) s (m + e) 0 := by
  intro e
  induction e with
  | zero => intro m st _ h; exact h
  | succ e ih =>
    intro m st hm h
    have := ih (m + 1) _ (by omega) (zSg_next (c := nI m = off) (zSg_mile (q := q) (lim := lim) (m := m) (by omega) hs s 0 st (by omega) h))
    rw [show m + (e + 1) = m + 1 + e by omega]
    exact this
theorem zSg_0 : zSg zS0 s 0 0 := ⟨fun j _ => ⟨0, Or.inl (Nat.le_refl _), rfl, fun _ => rfl, fun _ => rfl⟩, fun j _ => Or.inl rfl, Or.inl ⟨rfl, fun _ _ => rfl⟩⟩
/-- two states that say the same of the first s -/
abbrev zSe (s : Nat) (f f' : Nat → Int32) : Prop := ∀ j, j < s → f j = f' j
end RI
section RJ
variable {E : zEv2} {s t n : Nat} {J J1 J2 : zzJ} {w w' : zVw} {x y v : Int32} {a r i : Nat}
abbrev zQf (E : zEv2) (w : zVw) (t : Nat) : Nat → Nat → Int32 := fun m p => zQueasy E w t (nI p) (w 0 1 + nI m)
/-- a ride is planned in the class -/
abbrev zPl (J : zzJ) (q : Nat → Nat → Int32) (lim : Int32) (b s : Nat) : Prop := J.2 28 4 = nI b ∧ J.2 28 5 = nI s ∧ J.2 28 6 = lim ∧ ∀ m p, m < b → p < s → J.2 29 (8 * m + p) = q m p
abbrev zRi (J : zzJ) (st : zS5) (s : Nat) : Prop := zSe s (J.2 30) st.1 ∧ zSe s (J.2 32) st.2.1 ∧ zSe s (J.2 31) st.2.2.1
theorem i_8 {m p : Nat} : nI m * 8 + nI p = nI (8 * m + p) := by rw [show (8 : Int32) = nI 8 from rfl, pk_mul, nI_add, Nat.mul_comm]
theorem t_plan31 (ha : a = 7 ∨ a = 14) (hs : s ≤ 8) (ht : w 0 3 = nI t) (htn : t < n) {b m : Nat} (hb : b ≤ 60) (hm : m < b) {J0 : zzJ} (v0 : zVe w (zW a J0)) (hC : zTxC E n (J0.2 2) (J0.2 3)) (h5 : J0.2 28 5 = nI s) : ∃ J1, (fun kl => F_X3_plan_31 kl 4096 a (nI b) (nI m) 0 J0) = (fun kl => kl a (nI b) (nI (m + 1)) J1) ∧ J1.1 = J0.1 ∧ (∀ c, c ≠ 4 → c ≠ a + 6 → c ≠ 29 → J1.2 c = J0.2 c) ∧ (∀ p, p < s → J1.2 29 (8 * m + p) = zQf E w t m p) ∧ ∀ k, (k < 8 * m ∨ 8 * m + s ≤ k) → J1.2 29 k = J0.2 29 k := by
  have hca : zCoach a := by rcases ha with rfl | rfl; exact zC7; exact zC14
  refine zLoop (G := fun fu (p : Nat × zzJ) => fun kl => F_X3_plan_31 kl fu a (nI b) (nI m) (nI p.1) p.2) (P := fun k p => p.1 = k ∧ p.2.1 = J0.1 ∧ (∀ c, c ≠ 4 → c ≠ a + 6 → c ≠ 29 → p.2.2 c = J0.2 c) ∧ (∀ j, j < k → p.2.2 29 (8 * m + j) = zQf E w t m j) ∧ ∀ j, (j < 8 * m ∨ 8 * m + k ≤ j) → p.2.2 29 j = J0.2 29 j) (Q := fun r => ∃ J1, r = (fun kl => kl a (nI b) (nI (m + 1)) J1) ∧ J1.1 = J0.1 ∧ (∀ c, c ≠ 4 → c ≠ a + 6 → c ≠ 29 → J1.2 c = J0.2 c) ∧ (∀ p, p < s → J1.2 29 (8 * m + p) = zQf E w t m p) ∧ ∀ k, (k < 8 * m ∨ 8 * m + s ≤ k) → J1.2 29 k = J0.2 29 k) (s := s) ?_ s 0 (0, J0) (by omega) ⟨rfl, rfl, fun _ _ _ _ => rfl, fun j hj => absurd hj (by omega), fun _ _ => rfl⟩ 4096 (by omega)
  rintro k ⟨k2, J'⟩ hk ⟨rfl, a1, b1, c1, d1⟩
  dsimp only at hk a1 b1 c1 d1 ⊢
  have v' : zVe w (zW a J') := veW (fun c _ _ => b1 c (by omega) (by omega) (by omega)) v0
  have h5' : J'.2 28 5 = nI s := by rw [b1 28 (by omega) (by omega) (by omega)]; exact h5
  by_cases h : k2 < s
  · right
    obtain ⟨J3, e3, s3⟩ := cw_queasy (x := nI k2) (m := w 0 1 + nI m) (J := J') hca (by rw [b1 2 (by omega) (by omega) (by omega), b1 3 (by omega) (by omega) (by omega)]; exact hC) ((v'.1 3 (by omega) (by omega)).trans ht) htn
    rw [zVe_queasy v'] at e3
    have e1 : J'.2 a 1 = w 0 1 := v'.1 1 (by omega) (by omega)
    have ep : F_X6_put 29 (nI (8 * m + k2)) (zQf E w t m k2) J3 = some (wI J3 29 (8 * m + k2) (zQf E w t m k2)) := by
      rw [b_put (n := 480) rfl rfl (by omega), if_pos (by rw [i_nI (by omega)]; omega), i_nI (by omega)]
      rfl
    refine ⟨h, (k2 + 1, wI J3 29 (8 * m + k2) (zQf E w t m k2)), ⟨rfl, s3.1.trans a1, fun c h1 h2 h3 => by dsimp only; rw [wI_ne h3, s3.2 c h1 h2]; exact b1 c h1 h2 h3, fun j hj => ?_, fun j hj => ?_⟩, fun fu => ?_⟩
    · dsimp only
      rw [wI_g]
      by_cases hj2 : j = k2
      · rw [if_pos (by omega), hj2]
      · rw [if_neg (by omega), s3.2 29 (by omega) (by omega)]; exact c1 j (by omega)
    · dsimp only
      rw [wI_g, if_neg (by omega), s3.2 29 (by omega) (by omega)]
      exact d1 j (by omega)
    · funext kl
      rw [F_X3_plan_31, h5', if_pos ((i_lts (by omega) (by omega)).2 h), if_pos (co_kd hca), e1, e3, Option.bind_some, i_8, ep, Option.bind_some, ← nI_succ]
  · left
    obtain rfl : k2 = s := by omega
    refine ⟨_, ⟨J', rfl, a1, b1, c1, d1⟩, fun fu => ?_⟩
    funext kl
    rw [F_X3_plan_31, h5', if_neg (fun q => h ((i_lts (by omega) (by omega)).1 q)), ← nI_succ]
theorem t_plan (ha : a = 7 ∨ a = 14) (hs : s ≤ 8) (h4 : w 0 4 = nI s) (ht : w 0 3 = nI t) (htn : t < n) {b : Nat} (hb : b ≤ 60) {J0 : zzJ} (v0 : zVe w (zW a J0)) (hC : zTxC E n (J0.2 2) (J0.2 3)) : ∃ J1, F_X3_plan a (nI b) J0 = some J1 ∧ zPl J1 (zQf E w t) (w 0 2) b s ∧ J1.1 = J0.1 ∧ ∀ c, c ≠ 4 → c ≠ a + 6 → c ≠ 28 → c ≠ 29 → J1.2 c = J0.2 c := by
  have hca : zCoach a := by rcases ha with rfl | rfl; exact zC7; exact zC14
  have e4 : J0.2 a 4 = nI s := (v0.1 4 (by omega) (by omega)).trans h4
  have e2 : J0.2 a 2 = w 0 2 := v0.1 2 (by omega) (by omega)
  generalize hJs : wI (wI (wI J0 28 4 (nI b)) 28 5 (nI s)) 28 6 (w 0 2) = Js
  have os : ∀ c, c ≠ 28 → Js.2 c = J0.2 c := fun c hc => by rw [← hJs, wI_ne hc, wI_ne hc, wI_ne hc]
  have vs : zVe w (zW a Js) := veW (fun c _ _ => os c (by omega)) v0
  have lp : ∃ J1, F_X3_plan_23 4096 a (nI b) 0 Js = some J1 ∧ J1.1 = Js.1 ∧ (∀ c, c ≠ 4 → c ≠ a + 6 → c ≠ 29 → J1.2 c = Js.2 c) ∧ ∀ m p, m < b → p < s → J1.2 29 (8 * m + p) = zQf E w t m p := by
    refine zLoop (G := fun fu (p : Nat × zzJ) => F_X3_plan_23 fu a (nI b) (nI p.1) p.2) (P := fun k p => p.1 = k ∧ p.2.1 = Js.1 ∧ (∀ c, c ≠ 4 → c ≠ a + 6 → c ≠ 29 → p.2.2 c = Js.2 c) ∧ ∀ m j, m < k → j < s → p.2.2 29 (8 * m + j) = zQf E w t m j) (Q := fun r => ∃ J1, r = some J1 ∧ J1.1 = Js.1 ∧ (∀ c, c ≠ 4 → c ≠ a + 6 → c ≠ 29 → J1.2 c = Js.2 c) ∧ ∀ m p, m < b → p < s → J1.2 29 (8 * m + p) = zQf E w t m p) (s := b) ?_ b 0 (0, Js) (by omega) ⟨rfl, rfl, fun _ _ _ _ => rfl, fun m j hm => absurd hm (by omega)⟩ 4096 (by omega)
    rintro k ⟨k2, J'⟩ hk ⟨rfl, a1, b1, c1⟩
    dsimp only at hk a1 b1 c1 ⊢
    by_cases h : k2 < b
    · right
      obtain ⟨J3, e3, a3, b3, c3, d3⟩ := t_plan31 (E := E) (n := n) (w := w) (J0 := J') ha hs ht htn hb h (veW (fun c _ _ => b1 c (by omega) (by omega) (by omega)) vs) (by rw [b1 2 (by omega) (by omega) (by omega), b1 3 (by omega) (by omega) (by omega), os 2 (by omega), os 3 (by omega)]; exact hC) (by rw [b1 28 (by omega) (by omega) (by omega), ← hJs]; simp [wI_get])
      refine ⟨h, (k2 + 1, J3), ⟨rfl, a3.trans a1, fun c h1 h2 h3 => (b3 c h1 h2 h3).trans (b1 c h1 h2 h3), fun m j hm hj => ?_⟩, fun fu => ?_⟩
      · by_cases hmk : m = k2
        · rw [hmk]; exact c3 j hj
        · dsimp only
          rw [d3 (8 * m + j) (by omega)]
          exact c1 m j (by omega) hj
      · rw [F_X3_plan_23, if_pos ((i_lts (by omega) (by omega)).2 h)]
        exact congrFun e3 _
    · left
      obtain rfl : k2 = b := by omega
      refine ⟨_, ⟨J', rfl, a1, b1, c1⟩, fun fu => ?_⟩
      rw [F_X3_plan_23, if_neg (fun q => h ((i_lts (by omega) (by omega)).1 q))]
  obtain ⟨J1, e1, a1, b1, c1⟩ := lp
  refine ⟨J1, ?_, ⟨?_, ?_, ?_, c1⟩, by rw [a1, ← hJs]; rfl, fun c h1 h2 h3 h4 => (b1 c h1 h2 h4).trans (os c h3)⟩
  · have q1 : (wI J0 28 4 (nI b)).2 a 4 = nI s := by rw [wI_ne (by omega)]; exact e4
    have q2 : (wI (wI J0 28 4 (nI b)) 28 5 (nI s)).2 a 2 = w 0 2 := by rw [wI_ne (by omega), wI_ne (by omega)]; exact e2
    unfold F_X3_plan
    rw [if_pos (co_kd hca), q1, q2, hJs]
    exact e1
  · rw [b1 28 (by omega) (by omega) (by omega), ← hJs]; simp [wI_get]
  · rw [b1 28 (by omega) (by omega) (by omega), ← hJs]; simp [wI_get]
  · rw [b1 28 (by omega) (by omega) (by omega), ← hJs]; simp [wI_get]
end RJ
