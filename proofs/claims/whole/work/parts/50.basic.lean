/-! numbers, rows, the small methods -/
theorem wI_get {J : zzJ} {a k b j : Nat} {v : Int32} : (wI J a k v).2 b j = if b = a ∧ j = k then v else J.2 b j := rfl
theorem wI_ne {J : zzJ} {a k b : Nat} {v : Int32} (h : b ≠ a) : (wI J a k v).2 b = J.2 b := zzUp_ne h
theorem wI_L {J : zzJ} {a k : Nat} {v : Int32} : (wI J a k v).1 = J.1 := rfl
theorem wC_ne {J : zzJ} {a b : Nat} {f : Nat → Int32} (h : b ≠ a) : (wC J a f).2 b = J.2 b := zzRo_ne h
theorem wC_eq {J : zzJ} {a : Nat} {f : Nat → Int32} : (wC J a f).2 a = f := zzRo_eq
theorem wC_L {J : zzJ} {a : Nat} {f : Nat → Int32} : (wC J a f).1 = J.1 := rfl
theorem i_lt {x y : Int32} : x < y ↔ x.toInt < y.toInt := Int32.lt_iff_toInt_lt
theorem i_eq {x y : Int32} : x = y ↔ x.toInt = y.toInt := Int32.toInt_inj.symm
theorem i_cl (x : Int32) : x.toNatClampNeg = x.toInt.toNat := rfl
theorem i_of {n : Nat} (h : n < 2147483648) : (Int32.ofNat n).toInt = n := nI_toInt (by omega)
theorem i_nI {n : Nat} (h : n < 2147483648) : (nI n).toInt = n := nI_toInt (by omega)
/-- a number that is not below 0 is one of the naturals -/
theorem i_nat {x : Int32} (h : 0 ≤ x.toInt) : ∃ k : Nat, x = nI k ∧ k < 2147483648 ∧ x.toInt = k := by
  have h1 : x.toInt < 2147483648 := by have := Int32.toInt_lt x; omega
  refine ⟨x.toInt.toNat, ?_, by omega, by omega⟩
  rw [i_eq, i_nI (by omega)]
  omega
theorem ix_iff {i : Int32} {n : Nat} : zzIx i n ↔ 0 ≤ i.toInt ∧ i.toInt < n := by
  unfold zzIx
  rw [i_lt, i_cl]
  have : (0 : Int32).toInt = 0 := rfl
  omega
theorem b_itemAt {row n : Nat} {i : Int32} {J : zzJ} (h8 : zKd row = 8) (hn : zSz row = n) (hn2 : n < 2147483648) : F_X6_itemAt row i J = some (if 0 ≤ i.toInt ∧ i.toInt < n then J.2 row i.toInt.toNat else 0, J) := by
  unfold F_X6_itemAt
  rw [h8, hn]
  simp only [i_lt, ix_iff, i_of hn2, i_cl]
  have h0 : (0 : Int32).toInt = 0 := rfl
  rw [h0]
  by_cases h1 : i.toInt < 0
  · rw [if_pos h1, if_neg (by omega)]
  · rw [if_neg h1, if_pos ⟨Nat.le_refl 8, by omega⟩]
    by_cases h2 : i.toInt < n
    · rw [if_pos h2, if_pos trivial, if_pos ⟨by omega, h2⟩, if_pos ⟨by omega, h2⟩]
    · rw [if_neg h2, if_neg (by omega)]
theorem b_put {row n : Nat} {i v : Int32} {J : zzJ} (h8 : zKd row = 8) (hn : zSz row = n) (hn2 : n < 2147483648) : F_X6_put row i v J = some (if 0 ≤ i.toInt ∧ i.toInt < n then wI J row i.toInt.toNat v else J) := by
  unfold F_X6_put
  rw [h8, hn]
  simp only [i_lt, ix_iff, i_of hn2, i_cl]
  have h0 : (0 : Int32).toInt = 0 := rfl
  rw [h0]
  by_cases h1 : i.toInt < 0
  · rw [if_pos h1, if_neg (by omega)]
  · rw [if_neg h1, if_pos ⟨Nat.le_refl 8, by omega⟩]
    by_cases h2 : i.toInt < n
    · rw [if_pos h2, if_pos trivial, if_pos ⟨by omega, h2⟩, if_pos ⟨by omega, h2⟩]
    · rw [if_neg h2, if_neg (by omega)]
/-- a loop that fills a row from k on -/
theorem b_fill_loop {row n : Nat} {v : Int32} (h8 : zKd row = 8) (hn : zSz row = n) (hn2 : n < 4096) : ∀ (m k f : Nat) (J : zzJ), n = k + m → m < f → ∃ J1 : zzJ, F_X6_fill_2 f row v (nI k) J = some J1 ∧ J1.1 = J.1 ∧ (∀ b, b ≠ row → J1.2 b = J.2 b) ∧ ∀ j, J1.2 row j = if k ≤ j ∧ j < n then v else J.2 row j := by
  intro m
  induction m with
  | zero =>
    intro k f J hk hf
    obtain ⟨f, rfl⟩ : ∃ f', f = f' + 1 := ⟨f - 1, by omega⟩
    refine ⟨J, ?_, rfl, fun _ _ => rfl, fun j => by rw [if_neg (by omega)]⟩
    rw [F_X6_fill_2, h8, hn, if_pos ⟨Nat.le_refl 8, by omega⟩, if_neg]
    rw [i_lt, i_nI (by omega), i_of (by omega)]
    omega
  | succ m ih =>
    intro k f J hk hf
    obtain ⟨f, rfl⟩ : ∃ f', f = f' + 1 := ⟨f - 1, by omega⟩
    obtain ⟨J1, h1, h2, h3, h4⟩ := ih (k + 1) f (wI J row k v) (by omega) (by omega)
    refine ⟨J1, ?_, h2, fun b hb => (h3 b hb).trans (wI_ne hb), fun j => ?_⟩
    · rw [F_X6_fill_2, h8, hn, if_pos ⟨Nat.le_refl 8, by omega⟩, if_pos (by rw [i_lt, i_nI (by omega), i_of (by omega)]; omega), if_pos rfl, if_pos (by rw [ix_iff, i_nI (by omega)]; omega)]
      rw [nI_clamp (by omega), ← nI_succ]
      exact h1
    · rw [h4, wI_get]
      by_cases hj : j = k
      · subst hj
        rw [if_neg (by omega), if_pos ⟨rfl, rfl⟩, if_pos (by omega)]
      · by_cases hj2 : k + 1 ≤ j ∧ j < n
        · rw [if_pos hj2, if_pos (by omega)]
        · rw [if_neg hj2, if_neg (fun h => hj h.2), if_neg (by omega)]
theorem b_fill {row n : Nat} {v : Int32} {J : zzJ} (h8 : zKd row = 8) (hn : zSz row = n) (hn2 : n < 4096) : ∃ J1 : zzJ, F_X6_fill row v J = some J1 ∧ J1.1 = J.1 ∧ (∀ b, b ≠ row → J1.2 b = J.2 b) ∧ ∀ j, J1.2 row j = if j < n then v else J.2 row j := by
  obtain ⟨J1, h1, h2, h3, h4⟩ := b_fill_loop (v := v) h8 hn hn2 n 0 4096 J (by omega) (by omega)
  refine ⟨J1, h1, h2, h3, fun j => ?_⟩
  rw [h4]
  by_cases h : j < n
  · rw [if_pos ⟨Nat.zero_le _, h⟩, if_pos h]
  · rw [if_neg (by omega), if_neg h]
/-- a number of an int's size, as a long -/
theorem l_of (x : Int32) : x.toInt64.toInt = x.toInt := by simp
theorem b_in {x lo hi : Int64} {J : zzJ} : F_X7_in x lo hi J = some (if lo.toInt ≤ x.toInt ∧ x.toInt ≤ hi.toInt then 1 else 0, J) := by
  unfold F_X7_in
  have e1 : (lg_cmp x lo < (0 : Int32)) ↔ x.toInt < lo.toInt := by
    unfold lg_cmp
    simp only [gt_iff_lt, Int64.lt_iff_toInt_lt, ← Int64.toInt_inj]
    by_cases h1 : lo.toInt < x.toInt
    · rw [if_pos h1]; simp only [i_lt]; constructor
      · intro h; exact absurd h (by decide)
      · intro h; omega
    · rw [if_neg h1]
      by_cases h2 : x.toInt = lo.toInt
      · rw [if_pos h2]; constructor
        · intro h; exact absurd h (by decide)
        · intro h; omega
      · rw [if_neg h2]; constructor
        · intro _; omega
        · intro _; decide
  have e2 : ((0 : Int32) < lg_cmp x hi) ↔ hi.toInt < x.toInt := by
    unfold lg_cmp
    simp only [gt_iff_lt, Int64.lt_iff_toInt_lt, ← Int64.toInt_inj]
    by_cases h1 : hi.toInt < x.toInt
    · rw [if_pos h1]; constructor
      · intro _; exact h1
      · intro _; decide
    · rw [if_neg h1]
      by_cases h2 : x.toInt = hi.toInt
      · rw [if_pos h2]; constructor
        · intro h; exact absurd h (by decide)
        · intro h; omega
      · rw [if_neg h2]; constructor
        · intro h; exact absurd h (by decide)
        · intro h; omega
  by_cases h1 : x.toInt < lo.toInt
  · rw [if_pos (e1.mpr h1), if_neg (by omega)]
  · rw [if_neg (fun h => h1 (e1.mp h))]
    by_cases h2 : hi.toInt < x.toInt
    · rw [if_pos (e2.mpr h2), if_neg (by omega)]
    · rw [if_neg (fun h => h2 (e2.mp h)), if_pos (by omega)]
