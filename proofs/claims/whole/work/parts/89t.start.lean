/-! the start: the invariant holds -/
theorem zB0_b : ∀ k, zB0 k < 256 := by
  have h : ∀ k, k < 48 → zB0 k < 256 := by decide +kernel
  intro k
  by_cases hk : k < 48
  · exact h k hk
  · unfold zB0
    rw [List.getD_eq_getElem?_getD, List.getElem?_eq_none (show zT0.length ≤ k from Nat.le_of_not_lt hk)]
    decide
theorem ls_5 {F : Nat → Int32} {a0 a1 a2 a3 a4 : Int32} (h : (List.range 5).map F = [a0, a1, a2, a3, a4]) : F 0 = a0 ∧ F 1 = a1 ∧ F 2 = a2 ∧ F 3 = a3 ∧ F 4 = a4 :=
  ⟨congrArg (fun l => l.getD 0 0) h, congrArg (fun l => l.getD 1 0) h, congrArg (fun l => l.getD 2 0) h, congrArg (fun l => l.getD 3 0) h, congrArg (fun l => l.getD 4 0) h⟩
theorem ls_3 {F : Nat → Int32} {a0 a1 a2 : Int32} (h : (List.range 3).map F = [a0, a1, a2]) : F 0 = a0 ∧ F 1 = a1 ∧ F 2 = a2 :=
  ⟨congrArg (fun l => l.getD 0 0) h, congrArg (fun l => l.getD 1 0) h, congrArg (fun l => l.getD 2 0) h⟩
theorem c4_of {M : Nat → Nat → Int32} {l : List Int32} (h : [M 7 4, M 7 3, M 1 3, M 46 3, M 5 2, M 46 6, M 0 5, M 46 44, M 46 14, M 46 7 - M 7 1, M 46 8 - M 7 2, M 46 4, M 48 0] ++ (List.range 4).map (fun i => M (38 + 2 * i) 0) ++ (List.range 4).map (fun i => M 62 i) = l) : (M 7 4 = l.getD 0 0 ∧ M 7 3 = l.getD 1 0 ∧ M 1 3 = l.getD 2 0 ∧ M 46 3 = l.getD 3 0 ∧ M 5 2 = l.getD 4 0 ∧ M 46 6 = l.getD 5 0 ∧ M 0 5 = l.getD 6 0 ∧ M 46 44 = l.getD 7 0) ∧ (M 46 14 = l.getD 8 0 ∧ M 46 7 - M 7 1 = l.getD 9 0 ∧ M 46 8 - M 7 2 = l.getD 10 0 ∧ M 46 4 = l.getD 11 0 ∧ M 48 0 = l.getD 12 0) ∧ (M 38 0 = l.getD 13 0 ∧ M 40 0 = l.getD 14 0 ∧ M 42 0 = l.getD 15 0 ∧ M 44 0 = l.getD 16 0) ∧ (M 62 0 = l.getD 17 0 ∧ M 62 1 = l.getD 18 0 ∧ M 62 2 = l.getD 19 0 ∧ M 62 3 = l.getD 20 0) := by
  subst h
  exact ⟨⟨rfl, rfl, rfl, rfl, rfl, rfl, rfl, rfl⟩, ⟨rfl, rfl, rfl, rfl, rfl⟩, ⟨rfl, rfl, rfl, rfl⟩, ⟨rfl, rfl, rfl, rfl⟩⟩
/-- what the first TEXT says, to both -/
theorem text_0 : ∃ D : Nat → (Nat → Int32) → Int32, (∀ p, zCg (D p)) ∧ (∃ c : Nat → Int32, (∀ k, k < 5 → c k = zzZ4.2.2.2 2 k) ∧ zSeg c 0 3 (D 0) ∧ zSeg c 3 4 (D 1) ∧ zSeg c 4 5 (D 2)) ∧ ∀ (J : zzJ) (t : Nat) (w : Int32), t < 6 → J.2 48 t = nI 48 → (∀ k, k < 48 → J.2 47 (160 * t + k) = nI (zB0 k)) → ∃ v J1, F_X7_read (nI t) w J = some (v, J1) ∧ zLow J J1 ∧ v = D (zSel w) (fun k => J.2 46 (15 + k)) := by
  obtain ⟨q, D, ok, hq, hD, hC, hR⟩ := t_read (b := zB0) (m := 48) (by omega) zB0_b
  obtain ⟨J1, e1, f1, k52, k13, kok⟩ := hC zJs 0 ⟨by omega, rfl, fun k hk => rfl, zB0_b⟩ (by omega) rfl
  have hr := zJs_read
  rw [e1, Option.map_some] at hr
  have h1 := Prod.mk.inj (Option.some.inj hr)
  have h2 := Prod.mk.inj h1.2
  dsimp only at h1 h2
  have hok : ok = true := by
    cases ok
    · have := h1.1
      rw [if_neg (by decide)] at this
      exact absurd this (i_nm1 (by omega))
    · rfl
  subst hok
  obtain ⟨e0, a1, a2, u0, u1, u2, u3, w0, w1, w2, s0, s1, s2⟩ := kok rfl
  obtain ⟨x0, x1, x2⟩ := ls_3 h2.2
  obtain rfl : e0 = 3 := i_inj (by omega) (by omega) (w0.symm.trans x0)
  obtain rfl : a1 = 4 := i_inj (by omega) (by omega) (w1.symm.trans x1)
  obtain rfl : a2 = 5 := i_inj (by omega) (by omega) (w2.symm.trans x2)
  refine ⟨D, hD, ⟨J1.2 2, fun k hk => ?_, s0, s1, s2⟩, fun J t w ht h48 h47 => ?_⟩
  · obtain ⟨y0, y1, y2, y3, y4⟩ := ls_5 h2.1
    obtain ⟨z0, z1, z2, z3, z4⟩ := ls_5 zzC4_is.2.2.2.1
    have : k = 0 ∨ k = 1 ∨ k = 2 ∨ k = 3 ∨ k = 4 := by omega
    rcases this with rfl | rfl | rfl | rfl | rfl
    · exact y0.trans z0.symm
    · exact y1.trans z1.symm
    · exact y2.trans z2.symm
    · exact y3.trans z3.symm
    · exact y4.trans z4.symm
  · obtain ⟨v, J1, e, f, o1, _⟩ := hR J t w ht h48 h47
    exact ⟨v, J1, e, f, (o1 rfl).2⟩
theorem zz_start (L : Nat) (xs : Nat → Int32) : ∃ E s t n z, zInv L xs E s t n z (zzJ0 L xs) := by
  obtain ⟨D, hD, ⟨c, hc, s0, s1, s2⟩, hR⟩ := text_0
  obtain ⟨h0, h1, h2, h3, h4⟩ := zzC4_is
  have cell : ∀ a k, a < 2000 → (zzJ0 L xs).2 a k = zzZ4.2.2.2 a k := fun a k ha => if_neg (by omega)
  have h0' : _ = _ := h0
  unfold zzC4 at h0'
  obtain ⟨⟨g0, g1, g2, g3, g4, g5, g6, g7⟩, ⟨g8, g9, g10, g11, g12⟩, ⟨g13, g14, g15, g16⟩, g17, g18, g19, g20⟩ := c4_of (M := zzZ4.2.2.2) h0'
  obtain ⟨y0, y1, y2⟩ := ls_3 h4
  have v74 : (zzJ0 L xs).2 7 4 = 0 := (cell 7 4 (by omega)).trans g0
  have v73 : (zzJ0 L xs).2 7 3 = 0 := (cell 7 3 (by omega)).trans g1
  have v13 : (zzJ0 L xs).2 1 3 = 1 := (cell 1 3 (by omega)).trans g2
  have v463 : (zzJ0 L xs).2 46 3 = 1 := (cell 46 3 (by omega)).trans g3
  have v52 : (zzJ0 L xs).2 5 2 = 0 := (cell 5 2 (by omega)).trans g4
  have v466 : (zzJ0 L xs).2 46 6 = 0 := (cell 46 6 (by omega)).trans g5
  have v05 : (zzJ0 L xs).2 0 5 = 0 := (cell 0 5 (by omega)).trans g6
  have v4644 : (zzJ0 L xs).2 46 44 = -1 := (cell 46 44 (by omega)).trans g7
  have v4614 : (zzJ0 L xs).2 46 14 = 0 := (cell 46 14 (by omega)).trans g8
  have v467 : (zzJ0 L xs).2 46 7 = (zzJ0 L xs).2 7 1 := by
    rw [cell 46 7 (by omega), cell 7 1 (by omega)]
    have e : zzZ4.2.2.2 46 7 - zzZ4.2.2.2 7 1 = 0 := g9
    rw [← Int32.sub_add_cancel (zzZ4.2.2.2 46 7) (zzZ4.2.2.2 7 1), e, Int32.zero_add]
  have v468 : (zzJ0 L xs).2 46 8 = (zzJ0 L xs).2 7 2 := by
    rw [cell 46 8 (by omega), cell 7 2 (by omega)]
    have e : zzZ4.2.2.2 46 8 - zzZ4.2.2.2 7 2 = 0 := g10
    rw [← Int32.sub_add_cancel (zzZ4.2.2.2 46 8) (zzZ4.2.2.2 7 2), e, Int32.zero_add]
  have v464 : (zzJ0 L xs).2 46 4 = 0 := (cell 46 4 (by omega)).trans g11
  have v480 : (zzJ0 L xs).2 48 0 = 48 := (cell 48 0 (by omega)).trans g12
  have vsh : ∀ i, i < 4 → (zzJ0 L xs).2 (38 + 2 * i) 0 = -1 ∧ (zzJ0 L xs).2 62 i = 0 := fun i hi => by
    rw [cell (38 + 2 * i) 0 (by omega), cell 62 i (by omega)]
    have : i = 0 ∨ i = 1 ∨ i = 2 ∨ i = 3 := by omega
    rcases this with rfl | rfl | rfl | rfl
    · rw [show 38 + 2 * 0 = 38 from rfl]
      exact ⟨g13, g17⟩
    · rw [show 38 + 2 * 1 = 40 from rfl]
      exact ⟨g14, g18⟩
    · rw [show 38 + 2 * 2 = 42 from rfl]
      exact ⟨g15, g19⟩
    · rw [show 38 + 2 * 3 = 44 from rfl]
      exact ⟨g16, g20⟩
  have v12 : ∀ k, k < 24 → (zzJ0 L xs).2 12 k = -1 ∧ (zzJ0 L xs).2 54 k = -1 := fun k hk => by
    rw [cell 12 k (by omega), cell 54 k (by omega)]
    exact h1 k hk
  have v47 : ∀ k, k < 48 → (zzJ0 L xs).2 47 k = nI (zB0 k) := fun k hk => (cell 47 k (by omega)).trans (h2 k hk)
  have v30 : (zzJ0 L xs).2 3 0 = 3 := (cell 3 0 (by omega)).trans y0
  have v31 : (zzJ0 L xs).2 3 1 = 4 := (cell 3 1 (by omega)).trans y1
  have v32 : (zzJ0 L xs).2 3 2 = 5 := (cell 3 2 (by omega)).trans y2
  have c2 : ∀ k, k < 5 → (zzJ0 L xs).2 2 k = c k := fun k hk => (cell 2 k (by omega)).trans (hc k hk).symm
  have j1 : (zzJ0 L xs).1 2000 0 = Int64.ofNat L := (if_pos rfl : (if 2000 = 2000 then Int64.ofNat L else zzZ4.2.2.1 2000 0) = Int64.ofNat L)
  have j2 : (zzJ0 L xs).2 2000 = xs := funext fun k => (if_pos rfl : (if 2000 = 2000 then xs k else zzZ4.2.2.2 2000 k) = xs k)
  clear cell
  generalize zzJ0 L xs = J at v74 v73 v13 v463 v52 v466 v05 v4644 v4614 v467 v468 v464 v480 vsh v12 v47 v30 v31 v32 c2 j1 j2 ⊢
  have E0c : ∀ c e, zTxC2 (fun _ _ _ => 0) 0 c e := fun c e c' e' _ _ => ⟨fun _ _ _ _ _ => rfl, fun _ _ _ _ _ _ _ h _ => absurd h (by omega)⟩
  have E0r : ∀ x l, zTxR2 (fun _ _ _ => 0) 0 x l := fun x l x' l' _ _ => ⟨fun _ _ _ _ _ => rfl, fun _ _ _ _ _ h _ => absurd h (by omega)⟩
  refine ⟨fun t p f => if t = 0 then D p f else 0, 0, 0, 1, 0, ⟨j1, j2⟩, ⟨⟨by omega, v74, fun i hi => absurd hi (by omega), fun k hk => Or.inl (v12 k hk).1⟩, ⟨fun i hi => absurd hi (by omega), fun k hk => (v12 k hk).2.trans (v12 k hk).1.symm, v467, v468, v464.trans v73.symm, v4614.trans v74.symm⟩, v73, by omega⟩, ⟨by omega, v13, v463, ?_, ?_⟩, ⟨by omega, v52, v466, fun k hk => absurd hk (by omega)⟩, Or.inl ⟨v05, v4644⟩, fun i hi => Or.inl (vsh i hi)⟩
  · exact txc_new (n := 0) (e0 := 3) (e1 := 4) (e2 := 5) (E0c _ _) hD (by omega) (by omega) (by omega) (by omega) (by omega) v30 v31 v32 (s0.of fun k _ hk => c2 k (by omega)) (s1.of fun k _ hk => c2 k (by omega)) (s2.of fun k _ hk => c2 k (by omega))
  · exact txr_new (n := 0) (m := 48) (b := zB0) (E0r _ _) hD (by omega) (by omega) v480 (fun k hk => by rw [show 160 * 0 + k = k by omega]; exact v47 k hk) hR
