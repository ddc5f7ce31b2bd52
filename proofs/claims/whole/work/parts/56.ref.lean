/-! the reference's view of those beside one -/
theorem k24 {k : Nat} (h : k < 24) : k = 0 ∨ k = 1 ∨ k = 2 ∨ k = 3 ∨ k = 4 ∨ k = 5 ∨ k = 6 ∨ k = 7 ∨ k = 8 ∨ k = 9 ∨ k = 10 ∨ k = 11 ∨ k = 12 ∨ k = 13 ∨ k = 14 ∨ k = 15 ∨ k = 16 ∨ k = 17 ∨ k = 18 ∨ k = 19 ∨ k = 20 ∨ k = 21 ∨ k = 22 ∨ k = 23 := by omega
def zTo2 (s d : Int32) : Int32 := if s = -1 then -1 else if d = 1 then (if zRem s 2 = 0 then s + 1 else zCross s) else (if zRem s 2 = 0 then zCross s else s - 1)
section RE
variable {J : zzJ} {x : Int32} {k : Nat}
theorem r_nb1 (hx : zzIx x 8) (hs : J.2 53 x.toNatClampNeg = nI k) (hk : k < 24) : F_X7_neighbour x 1 J = some (zIt (J.2 54) 24 (zTo2 (nI k) 1) (-1), J) := by
  unfold F_X7_neighbour F_X7_neighbour_50 F_X7_neighbour_62 F_X7_neighbour_66 F_X7_neighbour_67 F_X7_neighbour_85
  rw [if_pos hx, hs]
  rcases k24 hk with rfl|rfl|rfl|rfl|rfl|rfl|rfl|rfl|rfl|rfl|rfl|rfl|rfl|rfl|rfl|rfl|rfl|rfl|rfl|rfl|rfl|rfl|rfl|rfl <;> rfl
theorem r_nbm (hx : zzIx x 8) (hs : J.2 53 x.toNatClampNeg = nI k) (hk : k < 24) : F_X7_neighbour x (-1) J = some (zIt (J.2 54) 24 (zTo2 (nI k) (-1)) (-1), J) := by
  unfold F_X7_neighbour F_X7_neighbour_50 F_X7_neighbour_62 F_X7_neighbour_66 F_X7_neighbour_67 F_X7_neighbour_85
  rw [if_pos hx, hs]
  rcases k24 hk with rfl|rfl|rfl|rfl|rfl|rfl|rfl|rfl|rfl|rfl|rfl|rfl|rfl|rfl|rfl|rfl|rfl|rfl|rfl|rfl|rfl|rfl|rfl|rfl <;> rfl
theorem r_nb0 (hx : zzIx x 8) (hs : J.2 53 x.toNatClampNeg = -1) {d : Int32} : F_X7_neighbour x d J = some (-1, J) := by
  unfold F_X7_neighbour
  rw [if_pos hx, hs, if_pos rfl]
end RE
