/-! a coach: what its small methods say -/
def zCoach (a : Nat) : Prop := a = 7 ∨ a = 14 ∨ a = 21
theorem co_kd {a : Nat} (h : zCoach a) : zKd a = 0 := by rcases h with rfl | rfl | rfl <;> rfl
theorem co_r {a : Nat} (h : zCoach a) : zMR a 0 = some 1 ∧ zMR a 5 = some (a + 1) ∧ zMR a 6 = some (a + 2) ∧ zMR a 7 = some (a + 3) ∧ zMR a 8 = some (a + 4) ∧ zMR a 9 = some (a + 5) ∧ zMR a 10 = some (a + 6) := by rcases h with rfl | rfl | rfl <;> exact ⟨rfl, rfl, rfl, rfl, rfl, rfl, rfl⟩
theorem co_8 {a : Nat} (h : zCoach a) : (zKd (a + 1) = 8 ∧ zSz (a + 1) = 8) ∧ (zKd (a + 2) = 8 ∧ zSz (a + 2) = 8) ∧ (zKd (a + 3) = 8 ∧ zSz (a + 3) = 8) ∧ (zKd (a + 4) = 8 ∧ zSz (a + 4) = 8) ∧ (zKd (a + 5) = 8 ∧ zSz (a + 5) = 24) ∧ (zKd (a + 6) = 8 ∧ zSz (a + 6) = 6) := by rcases h with rfl | rfl | rfl <;> exact ⟨⟨rfl, rfl⟩, ⟨rfl, rfl⟩, ⟨rfl, rfl⟩, ⟨rfl, rfl⟩, ⟨rfl, rfl⟩, rfl, rfl⟩
section CO
variable {a : Nat} {J : zzJ} {x : Int32}
theorem co_has (h : zCoach a) : F_X0_has a x J = some (if 0 ≤ x.toInt ∧ x.toInt < (J.2 a 4).toInt then 1 else 0, J) := by
  unfold F_X0_has
  rw [co_kd h]
  simp only [i_lt, show (0 : Int32).toInt = 0 from rfl, if_true]
  by_cases h1 : x.toInt < 0
  · rw [if_pos h1, if_neg (by omega)]
  · rw [if_neg h1]
    by_cases h2 : x.toInt < (J.2 a 4).toInt
    · rw [if_pos h2, if_pos (by omega)]
    · rw [if_neg h2, if_neg (by omega)]
theorem co_kindOf (h : zCoach a) : F_X0_kindOf a x J = some (if 0 ≤ x.toInt ∧ x.toInt < 8 then J.2 (a + 1) x.toInt.toNat else 0, J) := by
  unfold F_X0_kindOf
  rw [if_pos (co_kd h), (co_r h).2.1, Option.bind_some, b_itemAt (co_8 h).1.1 (co_8 h).1.2 (by omega)]
  rfl
theorem co_numberOf (h : zCoach a) : F_X0_numberOf a x J = some (if 0 ≤ x.toInt ∧ x.toInt < 8 then J.2 (a + 2) x.toInt.toNat else 0, J) := by
  unfold F_X0_numberOf
  rw [if_pos (co_kd h), (co_r h).2.2.1, Option.bind_some, b_itemAt (co_8 h).2.1.1 (co_8 h).2.1.2 (by omega)]
  rfl
theorem co_friendOf (h : zCoach a) : F_X0_friendOf a x J = some (if 0 ≤ x.toInt ∧ x.toInt < 8 then J.2 (a + 3) x.toInt.toNat else 0, J) := by
  unfold F_X0_friendOf
  rw [if_pos (co_kd h), (co_r h).2.2.2.1, Option.bind_some, b_itemAt (co_8 h).2.2.1.1 (co_8 h).2.2.1.2 (by omega)]
  rfl
theorem co_seatOf (h : zCoach a) : F_X0_seatOf a x J = some (if 0 ≤ x.toInt ∧ x.toInt < (J.2 a 4).toInt ∧ x.toInt < 8 then J.2 (a + 4) x.toInt.toNat else -1, J) := by
  unfold F_X0_seatOf
  rw [co_kd h, (co_r h).2.2.2.2.1]
  simp only [i_lt, show (0 : Int32).toInt = 0 from rfl, if_true, Option.bind_some, (co_8 h).2.2.2.1.1, (co_8 h).2.2.2.1.2, ix_iff, i_cl, show (Int32.ofNat 8).toInt = 8 from rfl]
  by_cases h1 : x.toInt < 0
  · rw [if_pos h1, if_neg (by omega)]
  · rw [if_neg h1]
    by_cases h2 : x.toInt < (J.2 a 4).toInt
    · rw [if_pos h2]
      by_cases h3 : x.toInt < 8
      · simp only [h3, h2, show 0 ≤ x.toInt by omega, and_self, if_true, Nat.le_refl, show (8 : Nat) ≤ 10 by omega, show x.toInt < ((8 : Nat) : Int) by omega]
      · simp only [h3, h2, and_false, if_false, if_true, Nat.le_refl, show (8 : Nat) ≤ 10 by omega, and_self]
    · rw [if_neg h2, if_neg (by omega)]
theorem co_sitterAt (h : zCoach a) : F_X0_sitterAt a x J = some (if 0 ≤ x.toInt ∧ x.toInt < 24 then J.2 (a + 5) x.toInt.toNat else -1, J) := by
  unfold F_X0_sitterAt
  rw [co_kd h, (co_r h).2.2.2.2.2.1]
  simp only [i_lt, show (0 : Int32).toInt = 0 from rfl, if_true, Option.bind_some, (co_8 h).2.2.2.2.1.1, (co_8 h).2.2.2.2.1.2, ix_iff, i_cl, show (Int32.ofNat 24).toInt = 24 from rfl]
  by_cases h1 : x.toInt < 0
  · rw [if_pos h1, if_neg (by omega)]
  · rw [if_neg h1]
    by_cases h3 : x.toInt < 24
    · simp only [h3, show 0 ≤ x.toInt by omega, and_self, if_true, Nat.le_refl, show (8 : Nat) ≤ 10 by omega, show x.toInt < ((24 : Nat) : Int) by omega]
    · simp only [h3, and_false, if_false, Nat.le_refl, show (8 : Nat) ≤ 10 by omega, and_self, if_true]
end CO
