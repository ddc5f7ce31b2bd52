/-! hat: all orders, the class -/
section SK2
variable {E : zEv2} {s t n : Nat} {J J1 J2 : zzJ} {w v v' : zVw} {b i j k m : Nat} {P Q : Nat → Nat} {a a' : Nat → Int32} {u : Int32} {l : List Nat}
abbrev zOk (b : Nat) (l : List Nat) : Prop := l.length = b ∧ ∀ k, k ∈ l → k < b
theorem zOkl_ok {p : List Nat} (h : zOkl b p = true) : zOk b p := by
  unfold zOkl at h
  rw [Bool.and_eq_true, decide_eq_true_eq, List.all_eq_true] at h
  exact ⟨h.1, fun k hk => by simpa using h.2 k hk⟩
theorem zLf_at (h : i < l.length) : zLf l i = l[i] := by
  unfold zLf
  rw [List.getD_eq_getElem?_getD, List.getElem?_eq_getElem h]
  rfl
theorem zLf_lt (hl : zOk b l) (hi : i < b) : zLf l i < b := by
  rw [zLf_at (by rw [hl.1]; exact hi)]
  exact hl.2 _ (List.getElem_mem _)
theorem drop_at (h : k < l.length) : l.drop k = zLf l k :: l.drop (k + 1) := by
  rw [zLf_at h]
  exact List.drop_eq_getElem_cons h
/-- the hat's rows -/
abbrev zHr (J : zzJ) (b : Nat) (P Q : Nat → Nat) : Prop := J.2 33 3 = nI b ∧ (∀ i, i < b → J.2 34 i = nI (P i)) ∧ ∀ i, i < b → J.2 35 i = nI (Q i)
theorem t_seatAll (gw : zGoodV w s) (hf : zHf w s b P Q) (hl : zOk b l) {J0 : zzJ} (hr : zHr J0 b P Q) (ho : zRow J0 b (zLf l)) (v0 : zVe v (zW 14 J0)) (h0 : zArr w v s b P a) : ∃ J1 v1 a1, F_X1_seatAll 14 J0 = some J1 ∧ zVe v1 (zW 14 J1) ∧ zArr w v1 s b P a1 ∧ zVe v1 (zCv P Q l 0 (zSb w P b)) ∧ J1.1 = J0.1 ∧ ∀ c, c ≠ 18 → c ≠ 19 → J1.2 c = J0.2 c := by
  have hb := hf.1
  have h8 := gw.1
  have bigB : ∀ (JA : zzJ) (vA : zVw) (aA : Nat → Int32), zVe vA (zW 14 JA) → zArr w vA s b P aA → (∀ i, i < b → aA i = -1) → JA.1 = J0.1 → (∀ c, c ≠ 18 → c ≠ 19 → JA.2 c = J0.2 c) → ∃ J1, F_X1_seatAll_31 4096 14 0 JA = some J1 ∧ zVe (zCv P Q l 0 vA) (zW 14 J1) ∧ zArr w (zCv P Q l 0 vA) s b P (zCa Q l 0 aA) ∧ J1.1 = J0.1 ∧ ∀ c, c ≠ 18 → c ≠ 19 → J1.2 c = J0.2 c := by
    intro JA vA aA hvA harr hm1 hA1 hA2
    refine zLoop (G := fun fu (q : Nat × zzJ) => F_X1_seatAll_31 fu 14 (nI q.1) q.2) (P := fun k q => q.1 = k ∧ (∃ v1 a1, zVe v1 (zW 14 q.2) ∧ zArr w v1 s b P a1 ∧ zFr0 b k Q a1 ∧ zCv P Q (l.drop k) k v1 = zCv P Q l 0 vA ∧ zCa Q (l.drop k) k a1 = zCa Q l 0 aA) ∧ q.2.1 = J0.1 ∧ ∀ c, c ≠ 18 → c ≠ 19 → q.2.2 c = J0.2 c) (Q := fun r => ∃ J1, r = some J1 ∧ zVe (zCv P Q l 0 vA) (zW 14 J1) ∧ zArr w (zCv P Q l 0 vA) s b P (zCa Q l 0 aA) ∧ J1.1 = J0.1 ∧ ∀ c, c ≠ 18 → c ≠ 19 → J1.2 c = J0.2 c) (s := b) ?_ b 0 (0, JA) (by omega) ⟨rfl, ⟨vA, aA, hvA, harr, zFr0_m1 hf hm1, rfl, rfl⟩, hA1, hA2⟩ 4096 (by omega)
    rintro k ⟨k2, J'⟩ hk ⟨rfl, ⟨v1, a1, hv1, ha1, hf1, hc1, hc2⟩, p1, p2⟩
    dsimp only at hk hv1 p1 p2 ⊢
    have h33 : J'.2 33 3 = nI b := by rw [p2 33 (by omega) (by omega)]; exact hr.1
    by_cases hlt : k2 < b
    · right
      have hkl := zLf_lt hl hlt
      have hd := drop_at (l := l) (k := k2) (by rw [hl.1]; exact hlt)
      dsimp only at hf1 hc1 hc2
      rw [hd, zCv] at hc1
      rw [hd, zCa] at hc2
      have hop := arr_open gw hf ha1 hkl hlt (fun i hi _ => hf1 i k2 hi (Nat.le_refl _) hlt)
      obtain ⟨J3, e3, v3, q3, o3⟩ := t_move zC14 hv1 ha1.2.2.2 (hf.2.1 _ hkl) hop.ok
      refine ⟨hlt, (k2 + 1, J3), ⟨rfl, ⟨_, _, v3, arr_mv hf ha1 hkl hop, zFr0_st hf hf1 hlt, hc1, hc2⟩, q3.trans p1, fun c h1 h2 => (o3 c h1 h2).trans (p2 c h1 h2)⟩, fun fu => ?_⟩
      rw [F_X1_seatAll_31, h33, if_pos ((i_lts (by omega) (by omega)).2 hlt), b_it (z := 6) rfl rfl (by omega) (by omega), p2 36 (by omega) (by omega), ho k2 hlt, Option.bind_some]
      dsimp only
      rw [b_it (z := 6) rfl rfl (by omega) (by omega), p2 34 (by omega) (by omega), hr.2.1 _ hkl, Option.bind_some]
      dsimp only
      rw [b_it (z := 6) rfl rfl (by omega) (by omega), p2 35 (by omega) (by omega), hr.2.2 _ hlt, Option.bind_some, if_pos (co_kd zC14)]
      dsimp only
      rw [e3, Option.bind_some, ← nI_succ]
    · left
      obtain rfl : k2 = b := by omega
      dsimp only at hf1 hc1 hc2
      rw [List.drop_of_length_le (by omega)] at hc1 hc2
      have e1 : v1 = zCv P Q l 0 vA := hc1
      have e2 : a1 = zCa Q l 0 aA := hc2
      refine ⟨_, ⟨J', rfl, by rw [← e1]; exact hv1, by rw [← e1, ← e2]; exact ha1, p1, p2⟩, fun fu => ?_⟩
      rw [F_X1_seatAll_31, h33, if_neg (fun q => hlt ((i_lts (by omega) (by omega)).1 q))]
  unfold F_X1_seatAll
  refine zLoop (G := fun fu (q : Nat × zzJ) => F_X1_seatAll_2 fu 14 (nI q.1) q.2) (P := fun k q => q.1 = k ∧ (∃ v1 a1, zVe v1 (zW 14 q.2) ∧ zArr w v1 s b P a1 ∧ ∀ i, i < k → a1 i = -1) ∧ q.2.1 = J0.1 ∧ ∀ c, c ≠ 18 → c ≠ 19 → q.2.2 c = J0.2 c) (Q := fun r => ∃ J1 v1 a1, r = some J1 ∧ zVe v1 (zW 14 J1) ∧ zArr w v1 s b P a1 ∧ zVe v1 (zCv P Q l 0 (zSb w P b)) ∧ J1.1 = J0.1 ∧ ∀ c, c ≠ 18 → c ≠ 19 → J1.2 c = J0.2 c) (s := b) ?_ b 0 (0, J0) (by omega) ⟨rfl, ⟨v, a, v0, h0, fun i hi => absurd hi (by omega)⟩, rfl, fun _ _ _ => rfl⟩ 4096 (by omega)
  rintro k ⟨k2, J'⟩ hk ⟨rfl, ⟨v1, a1, hv1, ha1, hm1⟩, p1, p2⟩
  dsimp only at hk hv1 hm1 p1 p2 ⊢
  have h33 : J'.2 33 3 = nI b := by rw [p2 33 (by omega) (by omega)]; exact hr.1
  by_cases hlt : k2 < b
  · right
    obtain ⟨J3, e3, v3, q3, o3⟩ := t_move (q := -1) zC14 hv1 ha1.2.2.2 (hf.2.1 _ hlt) (Or.inl rfl)
    refine ⟨hlt, (k2 + 1, J3), ⟨rfl, ⟨_, _, v3, arr_mv (u := -1) hf ha1 hlt (Or.inl rfl), fun i hi => ?_⟩, q3.trans p1, fun c h1 h2 => (o3 c h1 h2).trans (p2 c h1 h2)⟩, fun fu => ?_⟩
    · unfold zUd
      by_cases hik : i = k2
      · rw [if_pos hik]
      · rw [if_neg hik]; exact hm1 i (by omega)
    · rw [F_X1_seatAll_2, h33, if_pos ((i_lts (by omega) (by omega)).2 hlt), b_it (z := 6) rfl rfl (by omega) (by omega), p2 34 (by omega) (by omega), hr.2.1 _ hlt, Option.bind_some, if_pos (co_kd zC14)]
      dsimp only
      rw [e3, Option.bind_some, ← nI_succ]
  · left
    obtain rfl : k2 = b := by omega
    obtain ⟨J3, e3, v3, a3, q3, o3⟩ := bigB J' v1 a1 hv1 ha1 hm1 p1 p2
    refine ⟨_, ⟨J3, _, _, rfl, v3, a3, vl_arr gw hf hl.2 (by rw [hl.1]; exact Nat.le_refl _) ha1 hm1, q3, o3⟩, fun fu => ?_⟩
    rw [F_X1_seatAll_2, h33, if_neg (fun q => hlt ((i_lts (by omega) (by omega)).1 q))]
    exact e3
theorem t_digits (hl : zOk b l) (hb : b ≤ 6) (h33 : J.2 33 3 = nI b) (ho : zRow J b (zLf l)) : F_X1_digits J = some (zDg l 0, J) := by
  generalize hT : zDg l 0 = T
  refine zLoop (G := fun fu (q : Nat × Int32) => F_X1_digits_4 fu q.2 (nI q.1) J) (P := fun k q => q.1 = k ∧ zDg (l.drop k) q.2 = T) (Q := fun r => r = some (T, J)) (s := b) ?_ b 0 (0, 0) (by omega) ⟨rfl, hT⟩ 4096 (by omega)
  rintro k ⟨k2, d⟩ hk ⟨rfl, hP⟩
  dsimp only at hk hP ⊢
  by_cases hlt : k2 < b
  · right
    have hd := drop_at (l := l) (k := k2) (by rw [hl.1]; exact hlt)
    rw [hd, zDg] at hP
    refine ⟨hlt, (k2 + 1, 10 * d + nI (zLf l k2) + 1), ⟨rfl, hP⟩, fun fu => ?_⟩
    rw [F_X1_digits_4, h33, if_pos ((i_lts (by omega) (by omega)).2 hlt), b_it (z := 6) rfl rfl (by omega) (by omega), ho k2 hlt, Option.bind_some, ← nI_succ, Int32.mul_comm d 10]
  · left
    obtain rfl : k2 = b := by omega
    rw [List.drop_of_length_le (by rw [hl.1]; exact Nat.le_refl _)] at hP
    have hP : d = T := hP
    refine ⟨_, rfl, fun fu => ?_⟩
    rw [F_X1_digits_4, h33, if_neg (fun q => hlt ((i_lts (by omega) (by omega)).1 q)), hP]
theorem chn_next {p : List Nat} {r : List (List Nat)} (hc : zChn b (p :: r) = true) : (r = [] ∧ zNx (zLf p) b = none ∨ ∃ q r', r = q :: r' ∧ zChn b r = true ∧ ∃ f, zNx (zLf p) b = some f ∧ (List.range b).map f = q) := by
  cases r with
  | nil =>
    left
    rw [zChn] at hc
    refine ⟨rfl, ?_⟩
    unfold zNl at hc
    cases h : zNx (zLf p) b with
    | none => rfl
    | some f => rw [h] at hc; cases hc
  | cons q r' =>
    right
    rw [zChn, Bool.and_eq_true, decide_eq_true_eq] at hc
    refine ⟨q, r', rfl, hc.2, ?_⟩
    have h1 := hc.1
    unfold zNl at h1
    cases h : zNx (zLf p) b with
    | none => rw [h] at h1; cases h1
    | some f => rw [h] at h1; exact ⟨f, rfl, by simpa using h1⟩
theorem zLf_map {f : Nat → Nat} {q : List Nat} (h : (List.range b).map f = q) (hi : i < b) : zLf q i = f i := by
  rw [← h, zLf_at (by simpa using hi)]
  simp
theorem dg_ne (hl : zOk b l) (hb : b ≤ 6) (hb0 : 0 < b) : zDg l 0 ≠ 0 := by
  obtain ⟨e, h1, h2, h3⟩ := zDg_pos l 0 (fun k hk => by have := hl.2 k hk; omega) (Nat.pos_of_ne_zero (by simp)) (by rw [hl.1]; omega) (Or.inl (fun q => by have := hl.1; rw [q] at this; simp at this; omega))
  have h3' : zDg l 0 = nI e := h3
  rw [h3']
  intro q
  have := i_inj (k := e) (m := 0) (by omega) (by omega) q
  omega
end SK2
