/-! text: a TEXT is read by both -/
/-- the class: its texts up to the n-th, and all that the reader doesn't write -/
abbrev zFrE (n : Nat) (J J1 : zzJ) : Prop := J1.1 = J.1 ∧ (∀ c, c ≠ 1 → c ≠ 2 → c ≠ 3 → c ≠ 5 → J1.2 c = J.2 c) ∧ (∀ k, k < 160 * n → J1.2 2 k = J.2 2 k) ∧ ∀ k, k < 3 * n → J1.2 3 k = J.2 3 k
def zSel (w : Int32) : Nat := if w = 0 then 0 else if w = 1 then 1 else 2
section RD
variable {J J1 J2 : zzJ} {b : Nat → Nat} {m p q e f i j k n r o c d : Nat} {v x y z : Int32} {g : Bool}
theorem zFrE.rf : zFrE n J J := ⟨rfl, fun _ _ _ _ _ => rfl, fun _ _ => rfl, fun _ _ => rfl⟩
theorem zFrE.tr (h1 : zFrE n J J1) (h2 : zFrE n J1 J2) : zFrE n J J2 := ⟨h2.1.trans h1.1, fun c a b d e => (h2.2.1 c a b d e).trans (h1.2.1 c a b d e), fun k a => (h2.2.2.1 k a).trans (h1.2.2.1 k a), fun k a => (h2.2.2.2 k a).trans (h1.2.2.2 k a)⟩
theorem zFrE.of (hr : 160 * n ≤ r) (h : zFrD r J J1) : zFrE n J J1 := ⟨h.1, fun c a b _ e => h.2.1 c e a b, fun k hk => h.2.2.2.2 k (by omega), fun k _ => by rw [h.2.1 3 (by omega) (by omega) (by omega)]⟩
theorem zFrE.w3 (h : 3 * n ≤ i) : zFrE n J (wI J 3 i v) := ⟨rfl, fun c _ _ h3 _ => wI_ne h3, fun k _ => by rw [wI_ne (by omega)], fun k hk => by rw [wI_g, if_neg (by omega)]⟩
theorem zFrE.w15 (h : c = 1 ∨ c = 5) : zFrE n J (wI J c i v) := ⟨rfl, fun k _ _ _ _ => wI_ne (by omega), fun k _ => by rw [wI_ne (by omega)], fun k _ => by rw [wI_ne (by omega)]⟩
/-- a write to the row of ends keeps where the reader stands -/
theorem cs_w3 (h : zCS b m g p n r J) : zCS b m g p n r (wI J 3 i v) := by
  have ne : ∀ c, c ≠ 3 → (wI J 3 i v).2 c = J.2 c := fun c hc => wI_ne hc
  have t : zTp J b m → zTp (wI J 3 i v) b m := fun t => by
    unfold zTp
    rw [ne 5 (by omega), ne 6 (by omega)]
    exact t
  cases g
  · have h := cs_f h
    refine cs_f2 ?_
    unfold zSf
    rw [ne 5 (by omega), ne 1 (by omega)]
    exact ⟨t h.1, h.2⟩
  · have h := cs_t h
    refine cs_t2 ?_
    unfold zSc
    rw [ne 5 (by omega), ne 1 (by omega)]
    exact ⟨t h.1, h.2⟩
theorem cs_n (h : zCS b m g p n r J) : J.2 1 3 = nI n ∧ J.2 1 4 = nI r := by
  cases g
  · exact ⟨(cs_f h).2.2.2.2.1, (cs_f h).2.2.2.2.2⟩
  · exact ⟨(cs_t h).2.2.2.2.2.2.1, (cs_t h).2.2.2.2.2.2.2⟩
/-- a part's end is kept -/
theorem cs_end (h : zCS b m g p n r J) (hn : n < 6) (hi : i < 3) : F_X5_endPart (nI i) J = some (wI J 3 (3 * n + i) (nI r)) := by
  unfold F_X5_endPart
  rw [(cs_n h).1, (cs_n h).2, show (3 : Int32) = nI 3 from rfl, pk_mul, nI_add, Nat.mul_comm n 3, b_pt (z := 18) rfl rfl (by omega) (by omega), Option.bind_some]
theorem low_m (h : zFrM J J1) : zLow J J1 := ⟨h.1, fun k hk => h.2.1 k (by omega), h.2.2⟩
/-- a part that is left out where it is bad -/
theorem lr_skip {W : zzJ → Option (Int32 × zzJ)} {o : Nat} {g' : Bool} {p' : Nat} {den : (Nat → Int32) → Int32} (a3 : g = false → g' = false ∧ p' = p) (aR : zLR b m (fun J => Option.bind (W J) fun q => F_X7_part q.1 q.2) o g p g' p' den) (s : zRS b m f g p o J) : ∃ v J1, (if J.2 46 28 = 0 then (Option.bind (W J) fun q => F_X7_part q.1 q.2) else some (0, J)) = some (v, J1) ∧ zFrM J J1 ∧ zRS b m f g' p' o J1 ∧ (g' = true → v = den (fun k => J.2 46 (15 + k))) := by
  rcases rs_28c s with d | ⟨d, _⟩
  · cases g
    · obtain ⟨rfl, rfl⟩ := a3 rfl
      exact ⟨0, J, if_neg (by rw [d]; exact n10), zFrM.rf, s, fun q => absurd q (by decide)⟩
    · have := rs_28 s rfl
      rw [d] at this
      exact absurd this n10
  · obtain ⟨v, J1, e1, f1, s1, c1⟩ := aR J f s
    exact ⟨v, J1, by rw [if_pos d]; exact e1, f1, s1, c1⟩
/-- the class's three parts -/
theorem rd_23 (fu : Nat) : F_X2_read_23 (fu + 4) 0 J = Option.bind (Option.bind (F_X2_expect (nI 10006) J) fun q6 => Option.bind (E_X2_readOr 0 q6) fun q7 => F_X2_expect 11059 q7) fun a => Option.bind (F_X5_endPart (nI 0) a) fun a2 => Option.bind (Option.bind (F_X2_expect (nI 10007) a2) fun q6 => Option.bind (E_X2_readOr 0 q6) fun q7 => F_X2_expect 11059 q7) fun c => Option.bind (F_X5_endPart (nI 1) c) fun c2 => Option.bind (Option.bind (F_X2_expect (nI 10008) c2) fun q6 => Option.bind (E_X2_readOr 0 q6) fun q7 => F_X2_expect 11059 q7) fun d => Option.bind (F_X5_endPart (nI 2) d) fun d2 => if d2.2 5 5 = -1 then F_X2_read_75 d2 else Option.bind (F_X2_fail d2) fun q5 => F_X2_read_75 q5 := by
  have st : ∀ (fu l : Nat) (J : zzJ), l < 3 → F_X2_read_23 (fu + 1) (nI l) J = Option.bind (Option.bind (F_X2_expect (nI (10006 + l)) J) fun q6 => Option.bind (E_X2_readOr 0 q6) fun q7 => F_X2_expect 11059 q7) fun a => Option.bind (F_X5_endPart (nI l) a) fun a2 => F_X2_read_23 fu (nI (l + 1)) a2 := by
    intro fu l J hl
    rw [F_X2_read_23, if_pos (show nI l < (3 : Int32) from (i_lts (s := 3) (by omega) (by omega)).2 hl), show (10006 : Int32) = nI 10006 from rfl, nI_add, nI_1]
    cases F_X2_expect (nI (10006 + l)) J with
    | none => rfl
    | some a =>
      rw [Option.bind_some, Option.bind_some]
      cases E_X2_readOr 0 a with
      | none => rfl
      | some c =>
        rw [Option.bind_some, Option.bind_some]
  have sp : ∀ (fu : Nat) (J : zzJ), F_X2_read_23 (fu + 1) (nI 3) J = if J.2 5 5 = -1 then F_X2_read_75 J else Option.bind (F_X2_fail J) fun q5 => F_X2_read_75 q5 := by
    intro fu J
    rw [F_X2_read_23, if_neg (show ¬ nI 3 < (3 : Int32) by decide)]
  refine (st (fu + 3) 0 J (by omega)).trans (bd_c fun a => bd_c fun a2 => ?_)
  refine (st (fu + 2) 1 a2 (by omega)).trans (bd_c fun c => bd_c fun c2 => ?_)
  refine (st (fu + 1) 2 c2 (by omega)).trans (bd_c fun d => bd_c fun d2 => ?_)
  exact sp fu d2
theorem tk_kind (s : zRS b m f g p o J) (h28 : J.2 46 28 = 0) : J.2 46 24 = 0 ↔ zTk b m g p = -1 := by
  have hz : zGr J b m p → (J.2 46 24 = 0 ↔ zKi b m p = 0) := fun gr => by
    rw [gr.2.1]
    exact ⟨fun q => i_inj (m := 0) (by have := ki_5 (b := b) (m := m) (p := p); omega) (by omega) q, fun q => by rw [q]; rfl⟩
  have hk : zKi b m p = 0 ↔ zCd b m p = -1 := by
    rcases cd_cases (b := b) (m := m) (p := p) with ⟨hk, e⟩ | ⟨hk, hlt, e | ⟨j, hj, e⟩⟩ | ⟨hk, hlt, e, v, hv, e2⟩ | ⟨hk, hlt, hb, e⟩ | ⟨hk, e⟩
    · exact ⟨fun _ => e, fun _ => hk⟩
    · exact ⟨fun q => by omega, fun q => absurd (e.symm.trans q) (by decide)⟩
    · exact ⟨fun q => by omega, fun q => absurd (e.symm.trans q) (i_nm1 (by omega))⟩
    · exact ⟨fun q => by omega, fun q => absurd (e2.symm.trans q) (i_nm1 (by omega))⟩
    · exact ⟨fun q => by omega, fun q => absurd (e.symm.trans q) (i_nm1 (by omega))⟩
    · exact ⟨fun q => by omega, fun q => absurd (e.symm.trans q) (by decide)⟩
  cases g
  · obtain ⟨t, d⟩ := rs_f s
    rcases d with d | ⟨_, gr, d⟩
    · rw [d.1] at h28; exact absurd h28 n10
    · rw [hz gr, hk, d, tk_f]
  · obtain ⟨t, gr, _⟩ := rs_t s
    rw [hz gr, hk, tk_t]
theorem t_read (hm : m ≤ 160) (hb : ∀ k, b k < 256) : ∃ (q : Nat) (D : Nat → (Nat → Int32) → Int32) (ok : Bool), q ≤ m ∧ (∀ p, zCg (D p)) ∧
    (∀ (J : zzJ) (n : Nat), zTp J b m → n < 6 → J.2 1 3 = nI n → ∃ J1, F_X2_read J = some ((if ok = true then -1 else nI q), J1) ∧ zFrE n J J1 ∧ J1.2 5 2 = 0 ∧ J1.2 1 3 = (if ok = true then nI (n + 1) else nI n) ∧ (ok = true → ∃ e0 e1 e2, 160 * n < e0 ∧ e0 < e1 ∧ e1 < e2 ∧ e2 ≤ 160 * n + m ∧ J1.2 3 (3 * n) = nI e0 ∧ J1.2 3 (3 * n + 1) = nI e1 ∧ J1.2 3 (3 * n + 2) = nI e2 ∧ zSeg (J1.2 2) (160 * n) e0 (D 0) ∧ zSeg (J1.2 2) e0 e1 (D 1) ∧ zSeg (J1.2 2) e1 e2 (D 2))) ∧
    (∀ (J : zzJ) (t : Nat) (w : Int32), t < 6 → J.2 48 t = nI m → (∀ k, k < m → J.2 47 (160 * t + k) = nI (b k)) → ∃ v J1, F_X7_read (nI t) w J = some (v, J1) ∧ zLow J J1 ∧ (ok = true → J1.2 46 28 = 0 ∧ v = D (zSel w) (fun k => J.2 46 (15 + k))) ∧ (ok = false → J1.2 46 28 = 1 ∧ J1.2 46 29 = nI q)) := by
  have hnb := zNb_le (b := b) (m := m) (e := 0) (Nat.zero_le m)
  obtain ⟨g1, p1, d1, a1, a2, a3, a4, aC, aR⟩ := l_part (b := b) (K := 10006) hm (by omega) (fun J g p f s => rs_sounds s) (zOkT b m (zNb b m 0)) (zNb b m 0) hnb.2
  obtain ⟨g2, p2, d2, b1, b2, b3, b4, bC, bR⟩ := l_part (b := b) (K := 10007) hm (by omega) (fun J g p f s => rs_turns s) g1 p1 a2
  obtain ⟨g3, p3, d3, c1, c2, c3, c4, cC, cR⟩ := l_part (b := b) (K := 10008) hm (by omega) (fun J g p f s => rs_joys s) g2 p2 b2
  refine ⟨p3, fun k => if k = 0 then d1 else if k = 1 then d2 else d3, decide (zTk b m g3 p3 = -1), c2, fun k => ?_, fun J n t hn h13 => ?_, fun J t w ht h48 h47 => ?_⟩
  · by_cases h0 : k = 0
    · simp only [if_pos h0]; exact a4
    · by_cases h1 : k = 1
      · simp only [if_neg h0, if_pos h1]; exact b4
      · simp only [if_neg h0, if_neg h1]; exact c4
  · have f0 : zFrE n J (wI (wI (wI J 5 4 0) 5 6 (-1)) 1 4 (nI (160 * n))) := ((zFrE.w15 (by omega)).tr (zFrE.w15 (by omega))).tr (zFrE.w15 (by omega))
    have e0 : F_X5_startDraft (wI (wI J 5 4 0) 5 6 (-1)) = some (wI (wI (wI J 5 4 0) 5 6 (-1)) 1 4 (nI (160 * n))) := by
      unfold F_X5_startDraft
      rw [wI_ne (by omega), wI_ne (by omega), h13, show (160 : Int32) = nI 160 from rfl, pk_mul, Nat.mul_comm n 160]
    have q5 : (wI (wI (wI J 5 4 0) 5 6 (-1)) 1 4 (nI (160 * n))).2 5 = (wI (wI J 5 4 0) 5 6 (-1)).2 5 := wI_ne (by omega)
    have q6 : (wI (wI (wI J 5 4 0) 5 6 (-1)) 1 4 (nI (160 * n))).2 6 = J.2 6 := by rw [wI_ne (by omega), wI_ne (by omega), wI_ne (by omega)]
    have t0 : zTp (wI (wI (wI J 5 4 0) 5 6 (-1)) 1 4 (nI (160 * n))) b m := by
      refine ⟨t.1, ?_, fun k hk => by rw [q6]; exact t.2.2.1 k hk, t.2.2.2⟩
      rw [q5, wI_g, if_neg (by omega), wI_g, if_neg (by omega)]
      exact t.2.1
    have q54 : (wI (wI (wI J 5 4 0) 5 6 (-1)) 1 4 (nI (160 * n))).2 5 4 = nI 0 := by
      rw [q5, wI_g, if_neg (by omega), wI_g, if_pos rfl]
      rfl
    have q56 : (wI (wI (wI J 5 4 0) 5 6 (-1)) 1 4 (nI (160 * n))).2 5 6 = -1 := by
      rw [q5, wI_g, if_pos rfl]
    have q13 : (wI (wI (wI J 5 4 0) 5 6 (-1)) 1 4 (nI (160 * n))).2 1 3 = nI n := by
      rw [wI_g, if_neg (by omega), wI_ne (by omega), wI_ne (by omega)]
      exact h13
    have q14 : (wI (wI (wI J 5 4 0) 5 6 (-1)) 1 4 (nI (160 * n))).2 1 4 = nI (160 * n) := by rw [wI_g, if_pos rfl]
    generalize wI (wI (wI J 5 4 0) 5 6 (-1)) 1 4 (nI (160 * n)) = J0 at f0 e0 t0 q54 q56 q13 q14
    obtain ⟨J1, e1, fr1, g13, g15, gn, gf⟩ := t_adv t0 q54 (Nat.zero_le m) q56
    have s1 : zCS b m (zOkT b m (zNb b m 0)) (zNb b m 0) n (160 * n) J1 := by
      have k13 : J1.2 1 3 = nI n := by rw [fr1.2.1 1 (by omega)]; exact q13
      have k14 : J1.2 1 4 = nI (160 * n) := by rw [fr1.2.1 1 (by omega)]; exact q14
      unfold zOkT
      by_cases hc : zCd b m (zNb b m 0) = -2
      · rw [decide_eq_false (fun q => q hc)]
        exact cs_f2 ⟨t0.fr fr1, hnb.2, g15.trans hc, gf hc, k13, k14⟩
      · rw [decide_eq_true hc]
        exact cs_t2 ⟨t0.fr fr1, hc, g13, g15, (gn hc).1, (gn hc).2, k13, k14⟩
    have f1 : zFrE n J J1 := f0.tr (zFrE.of (Nat.le_refl _) (zFrD.of fr1))
    obtain ⟨J2, r1, e2, fr2, s2, x1, x2, x3⟩ := aC J1 n (160 * n) s1 (by omega)
    obtain ⟨J3, r2, e3, fr3, s3, y1, y2, y3⟩ := bC (wI J2 3 (3 * n + 0) (nI r1)) n r1 (cs_w3 s2) (by omega)
    obtain ⟨J4, r3, e4, fr4, s4, z1, z2, z3⟩ := cC (wI J3 3 (3 * n + 1) (nI r2)) n r2 (cs_w3 s3) (by omega)
    have f5 : zFrE n J (wI J4 3 (3 * n + 2) (nI r3)) := (((((f1.tr (zFrE.of (Nat.le_refl _) fr2)).tr (zFrE.w3 (by omega))).tr (zFrE.of x1 fr3)).tr (zFrE.w3 (by omega))).tr (zFrE.of (by omega) fr4)).tr (zFrE.w3 (by omega))
    have s5 : zCS b m g3 p3 n r3 (wI J4 3 (3 * n + 2) (nI r3)) := cs_w3 s4
    have n0 : (wI J4 3 (3 * n + 2) (nI r3)).2 3 (3 * n) = nI r1 := by
      rw [wI_g, if_neg (by omega), fr4.2.1 3 (by omega) (by omega) (by omega), wI_g, if_neg (by omega), fr3.2.1 3 (by omega) (by omega) (by omega), wI_g, if_pos (by omega)]
    have n1 : (wI J4 3 (3 * n + 2) (nI r3)).2 3 (3 * n + 1) = nI r2 := by
      rw [wI_g, if_neg (by omega), fr4.2.1 3 (by omega) (by omega) (by omega), wI_g, if_pos rfl]
    have n2 : (wI J4 3 (3 * n + 2) (nI r3)).2 3 (3 * n + 2) = nI r3 := by rw [wI_g, if_pos rfl]
    have w2 : (wI J4 3 (3 * n + 2) (nI r3)).2 2 = J4.2 2 := wI_ne (by omega)
    have w4 : ∀ k, k < r2 → J4.2 2 k = J3.2 2 k := fun k hk => (fr4.2.2.2.2 k hk).trans (by rw [wI_ne (by omega)])
    have w3 : ∀ k, k < r1 → J3.2 2 k = J2.2 2 k := fun k hk => (fr3.2.2.2.2 k hk).trans (by rw [wI_ne (by omega)])
    have er : F_X2_read J = if (wI J4 3 (3 * n + 2) (nI r3)).2 5 5 = -1 then F_X2_read_75 (wI J4 3 (3 * n + 2) (nI r3)) else Option.bind (F_X2_fail (wI J4 3 (3 * n + 2) (nI r3))) fun q5 => F_X2_read_75 q5 := by
      unfold F_X2_read
      rw [e0, Option.bind_some, e1, Option.bind_some]
      refine (rd_23 (J := J1) 4092).trans ?_
      dsimp only at e2 e3 e4
      rw [e2, Option.bind_some, cs_end s2 hn (by omega), Option.bind_some, e3, Option.bind_some, cs_end s3 hn (by omega), Option.bind_some, e4, Option.bind_some, cs_end s4 hn (by omega), Option.bind_some]
    rw [cs_tk s5] at er
    generalize wI J4 3 (3 * n + 2) (nI r3) = J5 at f5 s5 n0 n1 n2 w2 er
    by_cases hE : zTk b m g3 p3 = -1
    · obtain ⟨rfl, _⟩ := tk_is hE (by decide)
      have hg2 : g2 = true := by
        cases g2
        · exact absurd (c3 rfl).1 (by decide)
        · rfl
      have hg1 : g1 = true := by
        cases g1
        · exact absurd ((b3 rfl).1.symm.trans hg2) (by decide)
        · rfl
      have s6 := cs_t s5
      have k13 : J5.2 1 3 = nI n := s6.2.2.2.2.2.2.1
      rw [decide_eq_true hE, if_pos rfl, if_pos rfl]
      refine ⟨wI (wI J5 1 3 (nI (n + 1))) 5 2 0, ?_, (f5.tr (zFrE.w15 (by omega))).tr (zFrE.w15 (by omega)), by rw [wI_g, if_pos rfl], by rw [wI_ne (by omega), wI_g, if_pos rfl], fun _ => ⟨r1, r2, r3, (x3 hg1).1, (y3 hg2).1, (z3 rfl).1, by omega, ?_, ?_, ?_, ?_, ?_, ?_⟩⟩
      · rw [er, if_pos hE]
        unfold F_X2_read_75 F_X5_keepDraft
        rw [if_pos s6.2.2.2.2.2.1, Option.bind_some, k13, nI_1, wI_g, if_neg (by omega), wI_ne (by omega), s6.2.2.2.2.2.1]
      · rw [wI_ne (by omega), wI_ne (by omega)]; exact n0
      · rw [wI_ne (by omega), wI_ne (by omega)]; exact n1
      · rw [wI_ne (by omega), wI_ne (by omega)]; exact n2
      · rw [wI_ne (by omega), wI_ne (by omega), w2]
        exact ((x3 hg1).2.of fun k _ hk => (w4 k (by omega)).trans (w3 k hk))
      · rw [wI_ne (by omega), wI_ne (by omega), w2]
        exact ((y3 hg2).2.of fun k _ hk => w4 k hk)
      · rw [wI_ne (by omega), wI_ne (by omega), w2]
        exact (z3 rfl).2
    · obtain ⟨J6, e6, fr6, s6⟩ := cs_fail s5 c2
      have s7 := cs_f s6
      rw [decide_eq_false hE, if_neg (by decide), if_neg (by decide)]
      refine ⟨wI J6 5 2 0, ?_, (f5.tr (zFrE.of (by omega) fr6)).tr (zFrE.w15 (by omega)), by rw [wI_g, if_pos rfl], by rw [wI_ne (by omega)]; exact s7.2.2.2.2.1, fun q => absurd q (by decide)⟩
      rw [er, if_neg hE, e6, Option.bind_some]
      unfold F_X2_read_75
      rw [if_neg (by rw [s7.2.2.2.1]; exact i_nm1 (by omega)), wI_g, if_neg (by omega), s7.2.2.2.1]
  · have f0 : zLow J (wI (wI (wI (wI (wI J 46 21 (nI (160 * t))) 46 22 (nI m)) 46 23 0) 46 27 0) 46 28 0) := (((((zLow.wr (by omega)).tr (zLow.wr (by omega))).tr (zLow.wr (by omega))).tr (zLow.wr (by omega))).tr (zLow.wr (by omega)))
    have hg : ∀ k, k < 21 → (wI (wI (wI (wI (wI J 46 21 (nI (160 * t))) 46 22 (nI m)) 46 23 0) 46 27 0) 46 28 0).2 46 k = J.2 46 k := fun k hk => by
      rw [wI_g, if_neg (by omega), wI_g, if_neg (by omega), wI_g, if_neg (by omega), wI_g, if_neg (by omega), wI_g, if_neg (by omega)]
    have t0 : zTr (wI (wI (wI (wI (wI J 46 21 (nI (160 * t))) 46 22 (nI m)) 46 23 0) 46 27 0) 46 28 0) b m (160 * t) := by
      refine ⟨⟨hm, by omega⟩, ?_, ?_, fun k hk => ?_, hb⟩
      · rw [wI_g, if_neg (by omega), wI_g, if_neg (by omega), wI_g, if_neg (by omega), wI_g, if_pos rfl]
      · rw [wI_g, if_neg (by omega), wI_g, if_neg (by omega), wI_g, if_neg (by omega), wI_g, if_neg (by omega), wI_g, if_pos rfl]
      · rw [f0.1 47 (by omega)]; exact h47 k hk
    have k23 : (wI (wI (wI (wI (wI J 46 21 (nI (160 * t))) 46 22 (nI m)) 46 23 0) 46 27 0) 46 28 0).2 46 23 = nI 0 := by
      rw [wI_g, if_neg (by omega), wI_g, if_neg (by omega), wI_g, if_pos rfl]
      rfl
    have k27 : (wI (wI (wI (wI (wI J 46 21 (nI (160 * t))) 46 22 (nI m)) 46 23 0) 46 27 0) 46 28 0).2 46 27 = nI 0 := by
      rw [wI_g, if_neg (by omega), wI_g, if_pos rfl]
      rfl
    have k28 : (wI (wI (wI (wI (wI J 46 21 (nI (160 * t))) 46 22 (nI m)) 46 23 0) 46 27 0) 46 28 0).2 46 28 = 0 := by
      rw [wI_g, if_pos rfl]
    have er : F_X7_read (nI t) w J = Option.bind (F_X7_next (wI (wI (wI (wI (wI J 46 21 (nI (160 * t))) 46 22 (nI m)) 46 23 0) 46 27 0) 46 28 0)) fun q10 => (Option.bind (F_X7_isWord (115 : Int32) (111 : Int32) (117 : Int32) (110 : Int32) (100 : Int32) (115 : Int32) (0 : Int32) (0 : Int32) q10) fun q11 => (Option.bind (F_X7_part q11.1 q11.2) fun q12 => (if (q12.2.2 46 28) = (0 : Int32) then (Option.bind (F_X7_isWord (116 : Int32) (117 : Int32) (114 : Int32) (110 : Int32) (115 : Int32) (0 : Int32) (0 : Int32) (0 : Int32) q12.2) fun q14 => (Option.bind (F_X7_part q14.1 q14.2) fun q15 => F_X7_read_93 w q12.1 q15.1 q15.2)) else F_X7_read_93 w q12.1 (0 : Int32) q12.2))) := by
      unfold F_X7_read
      rw [if_pos (i_ix (by omega) (by omega)), i_cm (by omega), wI_ne (by omega), h48, show (160 : Int32) = nI 160 from rfl, pk_mul]
    generalize wI (wI (wI (wI (wI J 46 21 (nI (160 * t))) 46 22 (nI m)) 46 23 0) 46 27 0) 46 28 0 = J0 at f0 hg t0 k23 k27 k28 er
    obtain ⟨J1, e1, fr1, gr1⟩ := r_next t0 k23 (Nat.zero_le m)
    have s1 : zRS b m (160 * t) (zOkT b m (zNb b m 0)) (zNb b m 0) 0 J1 := by
      have j27 : J1.2 46 27 = nI 0 := (fr1.2.1 27 (by omega)).trans k27
      have j28 : J1.2 46 28 = 0 := (fr1.2.1 28 (by omega)).trans k28
      unfold zOkT
      by_cases hc : zCd b m (zNb b m 0) = -2
      · rw [decide_eq_false (fun q => q hc)]
        exact rs_f2 (t0.fr fr1) (Or.inr ⟨j28, gr1, hc⟩)
      · rw [decide_eq_true hc]
        exact rs_t2 (t0.fr fr1) gr1 hc j27 j28
    have fm1 := zFrM.of fr1
    obtain ⟨v1, J2, e2, f2, s2, x1⟩ := aR J1 _ s1
    obtain ⟨v2, J3, e3, f3, s3, x2⟩ := lr_skip b3 bR s2
    obtain ⟨v3, J4, e4, f4, s4, x3⟩ := lr_skip c3 cR s3
    have j1 : ∀ k, k < 6 → J1.2 46 (15 + k) = J.2 46 (15 + k) := fun k hk => (fm_facts fm1 k hk).trans (hg _ (by omega))
    have j2 : ∀ k, k < 6 → J2.2 46 (15 + k) = J.2 46 (15 + k) := fun k hk => (fm_facts f2 k hk).trans (j1 k hk)
    have j3 : ∀ k, k < 6 → J3.2 46 (15 + k) = J.2 46 (15 + k) := fun k hk => (fm_facts f3 k hk).trans (j2 k hk)
    have low4 : zLow J J4 := (((f0.tr (low_m fm1)).tr (low_m f2)).tr (low_m f3)).tr (low_m f4)
    have e126 : F_X7_read (nI t) w J = F_X7_read_126 w v1 v2 v3 J4 := by
      rw [er, e1, Option.bind_some]
      have e2' := e2
      dsimp only at e2'
      rw [rs_sounds s1, Option.bind_some] at e2'
      dsimp only at e2'
      rw [rs_sounds s1, Option.bind_some]
      dsimp only
      rw [e2', Option.bind_some]
      dsimp only
      have e93 : F_X7_read_93 w v1 v2 J3 = F_X7_read_126 w v1 v2 v3 J4 := by
        unfold F_X7_read_93
        rw [rs_joys s3, Option.bind_some] at e4
        dsimp only at e4
        rw [rs_joys s3, Option.bind_some]
        dsimp only
        by_cases h28 : J3.2 46 28 = 0
        · rw [if_pos h28] at e4 ⊢
          rw [e4, Option.bind_some]
        · rw [if_neg h28] at e4 ⊢
          have e5 := Prod.mk.inj (Option.some.inj e4)
          rw [e5.1, e5.2]
      rw [← e93]
      rw [rs_turns s2, Option.bind_some] at e3
      dsimp only at e3
      rw [rs_turns s2, Option.bind_some]
      dsimp only
      by_cases h28 : J2.2 46 28 = 0
      · rw [if_pos h28] at e3 ⊢
        rw [e3, Option.bind_some]
      · rw [if_neg h28] at e3 ⊢
        have e5 := Prod.mk.inj (Option.some.inj e3)
        rw [e5.1, e5.2]
    have e146 : ∀ J', F_X7_read_146 w v1 v2 v3 J' = some ((if w = 0 then v1 else if w = 1 then v2 else v3), J') := by
      intro J'
      unfold F_X7_read_146
      by_cases h0 : w = 0
      · rw [if_pos h0, if_pos h0]
      · rw [if_neg h0, if_neg h0]
        by_cases h1 : w = 1
        · rw [if_pos h1, if_pos h1]
        · rw [if_neg h1, if_neg h1]
    by_cases hE : zTk b m g3 p3 = -1
    · obtain ⟨rfl, _⟩ := tk_is hE (by decide)
      have hg2 : g2 = true := by
        cases g2
        · exact absurd (c3 rfl).1 (by decide)
        · rfl
      have hg1 : g1 = true := by
        cases g1
        · exact absurd ((b3 rfl).1.symm.trans hg2) (by decide)
        · rfl
      have d28 := rs_28 s4 rfl
      refine ⟨(if w = 0 then v1 else if w = 1 then v2 else v3), J4, ?_, low4, fun _ => ⟨d28, ?_⟩, fun q => absurd (q.symm.trans (decide_eq_true hE)) (by decide)⟩
      · rw [e126]
        unfold F_X7_read_126
        rw [if_pos d28, if_pos ((tk_kind s4 d28).2 hE), e146]
      · dsimp only
        rw [x1 hg1, x2 hg2, x3 rfl, a4 _ _ j1, b4 _ _ j2, c4 _ _ j3]
        unfold zSel
        by_cases h0 : w = 0
        · rw [if_pos h0, if_pos h0, if_pos rfl]
        · rw [if_neg h0, if_neg h0]
          by_cases h1 : w = 1
          · rw [if_pos h1, if_pos h1, if_neg (by omega), if_pos rfl]
          · rw [if_neg h1, if_neg h1, if_neg (by omega), if_neg (by omega)]
    · obtain ⟨J5, e5, f5, s5, d5⟩ := rs_fail (x := 0) s4
      have k29 : J5.2 46 28 = 1 → J5.2 46 29 = nI p3 := fun q => by
        rcases (rs_f s5).2 with d | d
        · exact d.2
        · rw [q] at d; exact absurd d.1 n10
      refine ⟨(if w = 0 then v1 else if w = 1 then v2 else v3), J5, ?_, low4.tr (low_m f5), fun q => absurd (q.symm.trans (decide_eq_false hE)) (by decide), fun _ => ⟨d5, k29 d5⟩⟩
      rw [e126]
      unfold F_X7_read_126
      rcases rs_28c s4 with d | ⟨d, _⟩
      · have e5' : F_X7_fail J4 = some J4 := by
          unfold F_X7_fail
          rw [if_neg (by rw [d]; exact n10)]
        have : J5 = J4 := (Option.some.inj (e5'.symm.trans e5)).symm
        rw [if_neg (by rw [d]; exact n10), e146, this]
      · rw [if_pos d, if_neg (fun q => hE ((tk_kind s4 d).1 q)), e5, Option.bind_some, e146]
end RD
