/-! text: a level of the language, read by both -/
/-- what the class does with it -/
abbrev zLC (b : Nat → Nat) (m : Nat) (C : zzJ → Option zzJ) (g : Bool) (p : Nat) (g' : Bool) (p' : Nat) (den : (Nat → Int32) → Int32) : Prop :=
  ∀ (J : zzJ) (n r : Nat), zCS b m g p n r J → r + m ≤ 960 + p → ∃ (J1 : zzJ) (r' : Nat), C J = some J1 ∧ zFrD r J J1 ∧ zCS b m g' p' n r' J1 ∧ r ≤ r' ∧ r' + p ≤ r + p' ∧ (g' = true → r < r' ∧ zSeg (J1.2 2) r r' den)
/-- what the reference does with it -/
abbrev zLR (b : Nat → Nat) (m : Nat) (R : zzJ → Option (Int32 × zzJ)) (o : Nat) (g : Bool) (p : Nat) (g' : Bool) (p' : Nat) (den : (Nat → Int32) → Int32) : Prop :=
  ∀ (J : zzJ) (f : Nat), zRS b m f g p o J → ∃ (v : Int32) (J1 : zzJ), R J = some (v, J1) ∧ zFrM J J1 ∧ zRS b m f g' p' o J1 ∧ (g' = true → v = den (fun k => J.2 46 (15 + k)))
/-- only the six facts count -/
abbrev zCg (den : (Nat → Int32) → Int32) : Prop := ∀ f g : Nat → Int32, (∀ k, k < 6 → f k = g k) → den f = den g
def zLvl (b : Nat → Nat) (m : Nat) (C : zzJ → Option zzJ) (R : zzJ → Option (Int32 × zzJ)) (o : Nat) : Prop :=
  ∀ (g : Bool) (p : Nat), p ≤ m → ∃ (g' : Bool) (p' : Nat) (den : (Nat → Int32) → Int32), p ≤ p' ∧ p' ≤ m ∧ (g = false → g' = false ∧ p' = p) ∧ zCg den ∧ zLC b m C g p g' p' den ∧ zLR b m R o g p g' p' den
/-- a loop's operators -/
abbrev zOpr (S : Int32 → Prop) : Prop := ∀ x, S x → ∃ op, x = nI op ∧ (op = 10009 ∨ op = 10010 ∨ op = 11042 ∨ op = 11043 ∨ op = 11045 ∨ op = 11060 ∨ op = 11061)
abbrev zLGs (C : zzJ → Option zzJ) (S : Int32 → Prop) (G : Nat → Int32 → zzJ → Option zzJ) : Prop :=
  ∀ (fu : Nat) (l : Int32) (J : zzJ), (S (J.2 5 5) → G (fu + 1) l J = if l < 160 then (Option.bind (F_X2_advance J) fun a => Option.bind (C a) fun c => Option.bind (F_X5_add (J.2 5 5) c) fun d => G fu (l + 1) d) else some J) ∧ (¬ S (J.2 5 5) → G (fu + 1) l J = some J)
abbrev zLHs (b : Nat → Nat) (m : Nat) (R : zzJ → Option (Int32 × zzJ)) (o : Nat) (S : Int32 → Prop) (H : Nat → Int32 → zzJ → Option (Int32 × zzJ)) : Prop :=
  ∀ (fu : Nat) (v : Int32) (J : zzJ) (g : Bool) (p f : Nat), zRS b m f g p o J → (S (zTk b m g p) → H (fu + 1) v J = Option.bind (F_X7_next J) fun a => Option.bind (R a) fun c => H fu (zJnd (zTk b m g p) v c.1) c.2) ∧ (¬ S (zTk b m g p) → H (fu + 1) v J = some (v, J))
theorem fm_facts {J J1 : zzJ} (h : zFrM J J1) : ∀ k, k < 6 → J1.2 46 (15 + k) = J.2 46 (15 + k) := fun k hk => h.2.1 (15 + k) (by omega)
section LV
variable {b : Nat → Nat} {m o : Nat} {C C2 : zzJ → Option zzJ} {R R2 : zzJ → Option (Int32 × zzJ)} {S : Int32 → Prop} {G : Nat → Int32 → zzJ → Option zzJ} {H : Nat → Int32 → zzJ → Option (Int32 × zzJ)}
theorem zLvl_lp (hm : m ≤ 160) (hS : zOpr S) (lv : zLvl b m C R o) (hG : zLGs C S G) (hH : zLHs b m R o S H) : ∀ (k : Nat) (g : Bool) (p : Nat), p ≤ m → m - p ≤ k → ∀ d0 : (Nat → Int32) → Int32, zCg d0 → ∃ (g' : Bool) (p' : Nat) (den : (Nat → Int32) → Int32), p ≤ p' ∧ p' ≤ m ∧ (g = false → g' = false ∧ p' = p) ∧ zCg den ∧
    (∀ (J : zzJ) (n r0 r l fu : Nat), zCS b m g p n r J → r + m ≤ 960 + p → l ≤ p → m - p < fu → (g = true → r0 < r ∧ zSeg (J.2 2) r0 r d0) → ∃ (J1 : zzJ) (r' : Nat), G fu (nI l) J = some J1 ∧ zFrD r J J1 ∧ zCS b m g' p' n r' J1 ∧ r ≤ r' ∧ r' + p ≤ r + p' ∧ (g' = true → r0 < r' ∧ zSeg (J1.2 2) r0 r' den)) ∧
    (∀ (J : zzJ) (f fu : Nat) (v : Int32), zRS b m f g p o J → m - p < fu → (g = true → v = d0 (fun k => J.2 46 (15 + k))) → ∃ (v' : Int32) (J1 : zzJ), H fu v J = some (v', J1) ∧ zFrM J J1 ∧ zRS b m f g' p' o J1 ∧ (g' = true → v' = den (fun k => J.2 46 (15 + k)))) := by
  intro k
  induction k with
  | zero =>
    intro g p hp hk d0 hd0
    have nS : ¬ S (zTk b m g p) := fun q => by
      obtain ⟨op, e, h⟩ := hS _ q
      obtain ⟨_, h2⟩ := tk_is e (i_nm2 (by omega))
      have := cd_lt (b := b) (m := m) (p := p) (by rw [h2]; exact i_nm1 (by omega))
      omega
    refine ⟨g, p, d0, Nat.le_refl p, hp, fun q => ⟨q, rfl⟩, hd0, fun J n r0 r l fu h1 h2 h3 h4 h5 => ?_, fun J f fu v h1 h2 h3 => ?_⟩
    · obtain ⟨fu, rfl⟩ : ∃ q, fu = q + 1 := ⟨fu - 1, by omega⟩
      refine ⟨J, r, ?_, zFrD.rf, h1, Nat.le_refl r, Nat.le_refl _, h5⟩
      exact (hG fu _ J).2 (by rw [cs_tk h1]; exact nS)
    · obtain ⟨fu, rfl⟩ : ∃ q, fu = q + 1 := ⟨fu - 1, by omega⟩
      refine ⟨v, J, ?_, zFrM.rf, h1, h3⟩
      exact (hH fu v J g p f h1).2 nS
  | succ k ih =>
    intro g p hp hk d0 hd0
    by_cases hs : S (zTk b m g p)
    · obtain ⟨op, e, hop⟩ := hS _ hs
      obtain ⟨rfl, h2⟩ := tk_is e (i_nm2 (by omega))
      have hlt := cd_lt (b := b) (m := m) (p := p) (by rw [h2]; exact i_nm1 (by omega))
      have hnt := zNt_lt (b := b) hlt
      have hnm := (zNt_le (b := b) hp).2
      obtain ⟨g2, p2, d2, a1, a2, a3, a4, aC, aR⟩ := lv (zOkT b m (zNt b m p)) (zNt b m p) hnm
      obtain ⟨g3, p3, d3, b1, b2, b3, b4, bC, bR⟩ := ih g2 p2 a2 (by omega) (fun f => zJnd (nI op) (d0 f) (d2 f)) (fun f f' q => by dsimp only; rw [hd0 f f' q, a4 f f' q])
      refine ⟨g3, p3, d3, by omega, b2, fun q => absurd q (by decide), b4, fun J n r0 r l fu h1 hr hl hfu h5 => ?_, fun J f fu v h1 hfu h5 => ?_⟩
      · obtain ⟨fu, rfl⟩ : ∃ q, fu = q + 1 := ⟨fu - 1, by omega⟩
        obtain ⟨J1, e1, f1, s1⟩ := cs_adv h1 hp
        obtain ⟨J2, r2, e2, f2, s2, c1, c2, c3⟩ := aC J1 n r s1 (by omega)
        obtain ⟨J3, e3, f3, s3, w3⟩ := cs_add (v := zTk b m true p) s2 (by omega)
        have gd : g2 = true → r0 < r2 + 1 ∧ zSeg (J3.2 2) r0 (r2 + 1) (fun f => zJnd (nI op) (d0 f) (d2 f)) := by
          intro q
          obtain ⟨q1, q2⟩ := h5 rfl
          obtain ⟨q3, q4⟩ := c3 q
          refine ⟨by omega, seg_bin hop (q2.of fun k _ hk => ?_) (q4.of fun k _ hk => ?_) q1 (by omega) ((w3 q).trans e)⟩
          · rw [f3.2.2.2.2 k (by omega), f2.2.2.2.2 k hk, f1.2.2.2.2 k hk]
          · rw [f3.2.2.2.2 k (by omega)]
        obtain ⟨J4, r4, e4, f4, s4, c4, c5, c6⟩ := bC J3 n r0 (r2 + 1) (l + 1) fu s3 (by omega) (by omega) (by omega) gd
        refine ⟨J4, r4, ?_, ((f1.tr (Nat.le_refl r) f2).tr c1 f3).tr (by omega) f4, s4, by omega, by omega, c6⟩
        rw [(hG fu _ J).1 (by rw [cs_tk h1]; exact hs), cs_tk h1, if_pos (show nI l < (160 : Int32) from (i_lts (s := 160) (by omega) (by omega)).2 (by omega)), e1, Option.bind_some, e2, Option.bind_some, e3, Option.bind_some, nI_1, e4]
      · obtain ⟨fu, rfl⟩ : ∃ q, fu = q + 1 := ⟨fu - 1, by omega⟩
        obtain ⟨J1, e1, f1, s1⟩ := rs_next h1 hp
        obtain ⟨v2, J2, e2, f2, s2, c2⟩ := aR J1 f s1
        have k1 := fm_facts f1
        have k2 := fm_facts (f1.tr f2)
        obtain ⟨v3, J3, e3, f3, s3, c3⟩ := bR J2 f fu (zJnd (nI op) v v2) s2 (by omega) (fun q => by rw [h5 rfl, c2 q, a4 _ _ k1, hd0 _ _ k2, a4 _ _ k2])
        refine ⟨v3, J3, ?_, (f1.tr f2).tr f3, s3, fun q => (c3 q).trans (b4 _ _ k2)⟩
        rw [(hH fu v J true p f h1).1 hs, e1, Option.bind_some, e2, Option.bind_some, e]
        exact e3
    · refine ⟨g, p, d0, Nat.le_refl p, hp, fun q => ⟨q, rfl⟩, hd0, fun J n r0 r l fu h1 h2 h3 h4 h5 => ?_, fun J f fu v h1 h2 h3 => ?_⟩
      · obtain ⟨fu, rfl⟩ : ∃ q, fu = q + 1 := ⟨fu - 1, by omega⟩
        refine ⟨J, r, ?_, zFrD.rf, h1, Nat.le_refl r, Nat.le_refl _, h5⟩
        exact (hG fu _ J).2 (by rw [cs_tk h1]; exact hs)
      · obtain ⟨fu, rfl⟩ : ∃ q, fu = q + 1 := ⟨fu - 1, by omega⟩
        refine ⟨v, J, ?_, zFrM.rf, h1, h3⟩
        exact (hH fu v J g p f h1).2 hs
/-- a level out of its operand and its loop -/
theorem zLvl_out (hm : m ≤ 160) (hS : zOpr S) (lv : zLvl b m C R o) (hG : zLGs C S G) (hH : zLHs b m R o S H) (hC : ∀ J, C2 J = Option.bind (C J) fun q => G 4096 0 q) (hR : ∀ J, R2 J = Option.bind (R J) fun q => H 4096 q.1 q.2) : zLvl b m C2 R2 o := by
  intro g p hp
  obtain ⟨g2, p2, d2, a1, a2, a3, a4, aC, aR⟩ := lv g p hp
  obtain ⟨g3, p3, d3, b1, b2, b3, b4, bC, bR⟩ := zLvl_lp hm hS lv hG hH (m - p2) g2 p2 a2 (Nat.le_refl _) d2 a4
  refine ⟨g3, p3, d3, by omega, b2, fun q => ?_, b4, fun J n r h1 hr => ?_, fun J f h1 => ?_⟩
  · obtain ⟨q1, q2⟩ := a3 q
    obtain ⟨q3, q4⟩ := b3 q1
    exact ⟨q3, q4.trans q2⟩
  · obtain ⟨J1, r1, e1, f1, s1, c1, c2, c3⟩ := aC J n r h1 hr
    obtain ⟨J2, r2, e2, f2, s2, c4, c5, c6⟩ := bC J1 n r r1 0 4096 s1 (by omega) (Nat.zero_le _) (by omega) c3
    refine ⟨J2, r2, ?_, f1.tr c1 f2, s2, by omega, by omega, c6⟩
    rw [hC, e1, Option.bind_some]
    exact e2
  · obtain ⟨v1, J1, e1, f1, s1, c1⟩ := aR J f h1
    have k1 := fm_facts f1
    obtain ⟨v2, J2, e2, f2, s2, c2⟩ := bR J1 f 4096 v1 s1 (by omega) (fun q => by rw [c1 q, a4 _ _ k1])
    refine ⟨v2, J2, ?_, f1.tr f2, s2, fun q => (c2 q).trans (b4 _ _ k1)⟩
    rw [hR, e1, Option.bind_some]
    exact e2
end LV
