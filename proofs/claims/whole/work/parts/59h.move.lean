/-! one of a coach moves to a seat: the class -/
section MV
variable {a s i : Nat} {J : zzJ} {q : Int32}
theorem b_putS (h : zCoach a) {y v : Int32} (hy : y = -1 ∨ ∃ k, k < 24 ∧ y = nI k) {J : zzJ} : ∃ J1, F_X6_put (a + 5) y v J = some J1 ∧ J1.1 = J.1 ∧ (∀ b, b ≠ a + 5 → J1.2 b = J.2 b) ∧ ∀ j, j < 24 → J1.2 (a + 5) j = if nI j = y then v else J.2 (a + 5) j := by
  have e := b_put (i := y) (v := v) (J := J) (co_8 h).2.2.2.2.1.1 (co_8 h).2.2.2.2.1.2 (by omega)
  rcases hy with rfl | ⟨k, hk, rfl⟩
  · rw [if_neg (by decide)] at e
    exact ⟨J, e, rfl, fun _ _ => rfl, fun j hj => by rw [if_neg (i_nm1 (by omega))]⟩
  · rw [if_pos (by rw [i_nI (by omega)]; omega), i_nI (by omega)] at e
    refine ⟨_, e, rfl, fun b hb => wI_ne hb, fun j hj => ?_⟩
    rw [wI_get]
    by_cases hjk : j = k
    · subst hjk
      rw [if_pos ⟨rfl, rfl⟩, if_pos rfl]
    · rw [if_neg (fun z => hjk (by have := z.2; omega)), if_neg (fun z => hjk (i_inj (by omega) (by omega) z))]
theorem cw_move (h : zCoach a) (g : zGoodV (zW a J) s) (hi : i < s) (hq : q = -1 ∨ ∃ k, k < 24 ∧ q = nI k) : ∃ J1, F_X0_move a (nI i) q J = some J1 ∧ J1.1 = J.1 ∧ (∀ b, b ≠ a + 4 → b ≠ a + 5 → J1.2 b = J.2 b) ∧ (∀ j, J1.2 (a + 4) j = if j = i then q else J.2 (a + 4) j) ∧ ∀ j, j < 24 → J1.2 (a + 5) j = if nI j = q then nI i else if nI j = J.2 (a + 4) i then -1 else J.2 (a + 5) j := by
  have h8 := g.1
  have hs : zSeat (zW a J) (nI i) = J.2 (a + 4) i := zSeat_nI g hi
  have ho : J.2 (a + 4) i = -1 ∨ ∃ k, k < 24 ∧ J.2 (a + 4) i = nI k := (g.2.2.1 i hi).2.2.2.imp id (fun ⟨k, x, y, _⟩ => ⟨k, x, y⟩)
  obtain ⟨J1, e1, a1, b1, c1⟩ := b_putS h (v := -1) (J := J) ho
  have e2 := b_put (i := nI i) (v := q) (J := J1) (co_8 h).2.2.2.1.1 (co_8 h).2.2.2.1.2 (by omega)
  rw [if_pos (by rw [i_nI (by omega)]; omega), i_nI (by omega)] at e2
  obtain ⟨J3, e3, a3, b3, c3⟩ := b_putS h (v := nI i) (J := wI J1 (a + 4) i q) hq
  refine ⟨J3, ?_, a3.trans a1, fun b h4 h5 => (b3 b h5).trans ((wI_ne h4).trans (b1 b h5)), fun j => ?_, fun j hj => ?_⟩
  · unfold F_X0_move
    rw [if_pos (co_kd h), (co_r h).2.2.2.2.2.1, Option.bind_some, cw_seatOf h, Option.bind_some]
    dsimp only
    rw [hs, e1, Option.bind_some, (co_r h).2.2.2.2.1, Option.bind_some]
    have e2' : F_X6_put (a + 4) (nI i) q J1 = some (wI J1 (a + 4) i q) := e2
    rw [e2', Option.bind_some, e3]
    rfl
  · rw [b3 _ (by omega), wI_get, b1 _ (by omega)]
    by_cases hj : j = i
    · rw [if_pos ⟨rfl, hj⟩, if_pos hj]
    · rw [if_neg (fun z => hj z.2), if_neg hj]
  · rw [c3 j hj, wI_ne (by omega), c1 j hj]
end MV
