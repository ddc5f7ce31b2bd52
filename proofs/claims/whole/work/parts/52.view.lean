/-! the view of a coach: row 0 its fields (1 the mile, 2 the limit, 3 the rule, 4 how many), rows 1 to 5 kinds, numbers, friends, seats, sitters -/
abbrev zVw : Type := Nat → Nat → Int32
def zW (a : Nat) (J : zzJ) : zVw := fun i => J.2 (a + i)
def zPair (x : Int32) : Int32 := if x = -1 then -1 else if zRem x 2 = 0 then x + 1 else x - 1
def zCross (x : Int32) : Int32 := if x = 21 then 22 else if x = 22 then 21 else -1
abbrev zHas (w : zVw) (x : Int32) : Prop := 0 ≤ x.toInt ∧ x.toInt < (w 0 4).toInt
def zIt (f : Nat → Int32) (n : Int) (x d : Int32) : Int32 := if 0 ≤ x.toInt ∧ x.toInt < n then f x.toInt.toNat else d
def zSeat (w : zVw) (x : Int32) : Int32 := if 0 ≤ x.toInt ∧ x.toInt < (w 0 4).toInt ∧ x.toInt < 8 then w 4 x.toInt.toNat else -1
def zSit (w : zVw) (x : Int32) : Int32 := zIt (w 5) 24 x (-1)
def zNb1 (w : zVw) (x : Int32) : Int32 := zSit w (zPair (zSeat w x))
def zNb2 (w : zVw) (x : Int32) : Int32 := zSit w (zCross (zSeat w x))
def zOne (c : Prop) [Decidable c] : Int32 := if c then 1 else 0
def zBes (w : zVw) (x : Int32) : Int32 := zOne (¬ zNb1 w x = -1) + zOne (¬ zNb2 w x = -1)
abbrev zTch (w : zVw) (x : Int32) : Prop := (0 ≤ x.toInt ∧ x.toInt < (w 0 4).toInt) ∧ zIt (w 1) 8 x 0 = 5
abbrev zWat (w : zVw) (x : Int32) : Prop := zTch w (zNb1 w x) ∨ zTch w (zNb2 w x)
/-- one sits beside the other -/
abbrev zNxt (w : zVw) (x y : Int32) : Prop := ¬ zSeat w y = -1 ∧ (zPair (zSeat w x) = zSeat w y ∨ zCross (zSeat w x) = zSeat w y)
theorem b_pair {x : Int32} {J : zzJ} : F_X6_pairSeat x J = some (zPair x, J) := by
  unfold F_X6_pairSeat zPair
  by_cases h1 : x = -1
  · rw [if_pos h1, if_pos h1]
  · rw [if_neg h1, if_neg h1]
    by_cases h2 : zRem x 2 = 0
    · rw [if_pos h2, if_pos h2]
    · rw [if_neg h2, if_neg h2]
theorem b_cross {x : Int32} {J : zzJ} : F_X6_crossSeat x J = some (zCross x, J) := by
  unfold F_X6_crossSeat zCross
  by_cases h1 : x = 21
  · rw [if_pos h1, if_pos h1]
  · rw [if_neg h1, if_neg h1]
    by_cases h2 : x = 22
    · rw [if_pos h2, if_pos h2]
    · rw [if_neg h2, if_neg h2]
section CW
variable {a : Nat} {J : zzJ} {x y : Int32}
theorem cw_seatOf (h : zCoach a) : F_X0_seatOf a x J = some (zSeat (zW a J) x, J) := co_seatOf h
theorem cw_sitterAt (h : zCoach a) : F_X0_sitterAt a x J = some (zSit (zW a J) x, J) := co_sitterAt h
theorem cw_has (h : zCoach a) : F_X0_has a x J = some (zOne (zHas (zW a J) x), J) := co_has h
theorem cw_sits (h : zCoach a) : F_X0_sits a x J = some (zOne (¬ zSeat (zW a J) x = -1), J) := by
  unfold F_X0_sits zOne
  rw [if_pos (co_kd h), cw_seatOf h, Option.bind_some]
  by_cases h1 : zSeat (zW a J) x = -1
  · rw [if_pos h1, if_neg (fun z => z h1)]
  · rw [if_neg h1, if_pos h1]
theorem cw_isOpen (h : zCoach a) : F_X0_isOpen a x y J = some (zOne (zSit (zW a J) x = -1 ∨ zSit (zW a J) x = y), J) := by
  unfold F_X0_isOpen zOne
  rw [if_pos (co_kd h), cw_sitterAt h, Option.bind_some]
  by_cases h1 : zSit (zW a J) x = -1
  · rw [if_pos h1, if_pos (Or.inl h1)]
  · rw [if_neg h1]
    by_cases h2 : zSit (zW a J) x = y
    · rw [if_pos h2, if_pos (Or.inr h2)]
    · rw [if_neg h2, if_neg (fun z => z.elim h1 h2)]
theorem zOne0 {c : Prop} {_ : Decidable c} : (zOne c = 0) ↔ ¬ c := by
  unfold zOne
  split
  · next h => exact ⟨fun z => absurd z (by decide), fun z => absurd h z⟩
  · next h => exact ⟨fun _ => h, fun _ => rfl⟩
theorem cw_isTeacher (h : zCoach a) : F_X0_isTeacher a x J = some (zOne (zTch (zW a J) x), J) := by
  unfold F_X0_isTeacher
  rw [if_pos (co_kd h), cw_has h, Option.bind_some]
  by_cases h1 : zHas (zW a J) x
  · rw [if_neg (by rw [zOne0]; exact fun z => z h1), (co_r h).2.1, Option.bind_some, b_itemAt (co_8 h).1.1 (co_8 h).1.2 (by omega), Option.bind_some]
    by_cases h2 : zIt (zW a J 1) 8 x 0 = 5
    · refine (if_pos h2).trans ?_
      unfold zOne
      rw [if_pos (show zTch (zW a J) x from ⟨h1, h2⟩)]
    · refine (if_neg h2).trans ?_
      unfold zOne
      rw [if_neg (show ¬ zTch (zW a J) x from fun z => h2 z.2)]
  · rw [if_pos (by rw [zOne0]; exact h1)]
    unfold zOne
    rw [if_neg (show ¬ zTch (zW a J) x from fun z => h1 z.1)]
theorem cw_neighbours (h : zCoach a) : F_X0_neighbours a x J = some (zBes (zW a J) x, J) := by
  unfold F_X0_neighbours
  rw [if_pos (co_kd h), cw_seatOf h, Option.bind_some, b_pair, Option.bind_some, cw_sitterAt h, Option.bind_some, b_cross, Option.bind_some, cw_sitterAt h, Option.bind_some]
  unfold zBes zOne F_X0_neighbours_35
  by_cases h1 : zNb1 (zW a J) x = -1
  · rw [if_neg (c := ¬ zNb1 (zW a J) x = -1) (fun z => z h1)]
    refine (if_pos h1).trans ?_
    by_cases h2 : zNb2 (zW a J) x = -1
    · rw [if_neg (c := ¬ zNb2 (zW a J) x = -1) (fun z => z h2)]; exact if_pos h2
    · rw [if_pos (c := ¬ zNb2 (zW a J) x = -1) h2]; exact if_neg h2
  · rw [if_pos (c := ¬ zNb1 (zW a J) x = -1) h1]
    refine (if_neg h1).trans ?_
    by_cases h2 : zNb2 (zW a J) x = -1
    · rw [if_neg (c := ¬ zNb2 (zW a J) x = -1) (fun z => z h2)]; exact if_pos h2
    · rw [if_pos (c := ¬ zNb2 (zW a J) x = -1) h2]; exact if_neg h2
theorem cw_isWatched (h : zCoach a) : F_X0_isWatched a x J = some (zOne (zWat (zW a J) x), J) := by
  unfold F_X0_isWatched
  rw [if_pos (co_kd h), cw_seatOf h, Option.bind_some, b_pair, Option.bind_some, cw_sitterAt h, Option.bind_some, cw_isTeacher h, Option.bind_some]
  dsimp only
  by_cases h1 : zTch (zW a J) (zNb1 (zW a J) x)
  · rw [if_neg (by rw [zOne0]; exact fun z => z h1)]
    unfold zOne
    rw [if_pos (show zWat (zW a J) x from Or.inl h1)]
  · rw [if_pos (by rw [zOne0]; exact h1), b_cross, Option.bind_some, cw_sitterAt h, Option.bind_some, cw_isTeacher h, Option.bind_some]
    dsimp only
    by_cases h2 : zTch (zW a J) (zNb2 (zW a J) x)
    · rw [if_neg (by rw [zOne0]; exact fun z => z h2)]
      unfold zOne
      rw [if_pos (show zWat (zW a J) x from Or.inr h2)]
    · rw [if_pos (by rw [zOne0]; exact h2)]
      unfold zOne
      rw [if_neg (show ¬ zWat (zW a J) x from fun z => z.elim h1 h2)]
theorem cw_areBeside (h : zCoach a) : F_X0_areBeside a x y J = some (zOne (zNxt (zW a J) x y), J) := by
  unfold F_X0_areBeside
  rw [if_pos (co_kd h), cw_seatOf h, Option.bind_some, cw_seatOf h, Option.bind_some]
  dsimp only
  unfold zOne
  by_cases h1 : zSeat (zW a J) y = -1
  · rw [if_pos h1, if_neg (show ¬ zNxt (zW a J) x y from fun z => z.1 h1)]
  · rw [if_neg h1, b_pair, Option.bind_some]
    dsimp only
    by_cases h2 : zPair (zSeat (zW a J) x) = zSeat (zW a J) y
    · rw [if_pos h2, if_pos (show zNxt (zW a J) x y from ⟨h1, Or.inl h2⟩)]
    · rw [if_neg h2, b_cross, Option.bind_some]
      dsimp only
      by_cases h3 : zCross (zSeat (zW a J) x) = zSeat (zW a J) y
      · rw [if_pos h3, if_pos (show zNxt (zW a J) x y from ⟨h1, Or.inr h3⟩)]
      · rw [if_neg h3, if_neg (show ¬ zNxt (zW a J) x y from fun z => z.2.elim h2 h3)]
def zBnd (v lo hi : Int32) : Int32 := if v < lo then lo else if hi < v then hi else v
theorem b_bounded {v lo hi : Int32} {J : zzJ} : F_X6_bounded v lo hi J = some (zBnd v lo hi, J) := by
  unfold F_X6_bounded zBnd
  by_cases h1 : v < lo
  · rw [if_pos h1, if_pos h1]
  · rw [if_neg h1, if_neg h1]
    by_cases h2 : hi < v
    · rw [if_pos h2, if_pos h2]
    · rw [if_neg h2, if_neg h2]
end CW
