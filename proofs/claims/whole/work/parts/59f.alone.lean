/-! how many of a coach sit alone: the class -/
section AL
variable {a s : Nat}
theorem cw_alone_4 (h : zCoach a) (hs : s < 4000) : ∀ (k i f : Nat) (l : Int32) (J : zzJ), J.2 a 4 = nI s → s = i + k → k < f → F_X0_alone_4 f a l (nI i) J = some (zAcc (fun x => zOne (¬ zSeat (zW a J) x = -1 ∧ zBes (zW a J) x = 0)) l i k, J) := by
  intro k
  induction k with
  | zero =>
    intro i f l J h4 hk hf
    obtain ⟨f, rfl⟩ : ∃ f', f = f' + 1 := ⟨f - 1, by omega⟩
    rw [F_X0_alone_4, if_pos (co_kd h), if_neg]
    · rfl
    · rw [h4, i_lt, i_nI (by omega), i_nI (by omega)]
      omega
  | succ k ih =>
    intro i f l J h4 hk hf
    obtain ⟨f, rfl⟩ : ∃ f', f = f' + 1 := ⟨f - 1, by omega⟩
    have go : ∀ v : Int32, v = zOne (¬ zSeat (zW a J) (nI i) = -1 ∧ zBes (zW a J) (nI i) = 0) → F_X0_alone_4 f a (l + v) (nI (i + 1)) J = some (zAcc (fun x => zOne (¬ zSeat (zW a J) x = -1 ∧ zBes (zW a J) x = 0)) l i (k + 1), J) := by
      intro v hv
      rw [ih (i + 1) f _ J h4 (by omega) (by omega), hv]
      rfl
    rw [F_X0_alone_4, if_pos (co_kd h), if_pos (by rw [h4, i_lt, i_nI (by omega), i_nI (by omega)]; omega), cw_sits h, Option.bind_some]
    dsimp only
    rw [← nI_succ]
    by_cases hx : zSeat (zW a J) (nI i) = -1
    · rw [if_pos (zOne0.2 (fun z => z hx))]
      exact go 0 (if_neg (fun z => z.1 hx)).symm
    · rw [if_neg (fun z => zOne0.1 z hx), cw_neighbours h, Option.bind_some]
      dsimp only
      by_cases hb : zBes (zW a J) (nI i) = 0
      · rw [if_pos hb]
        exact go 1 (if_pos ⟨hx, hb⟩).symm
      · rw [if_neg hb]
        exact go 0 (if_neg (fun z => hb z.2)).symm
theorem cw_alone (h : zCoach a) (hs : s < 4000) {J : zzJ} (h4 : J.2 a 4 = nI s) : F_X0_alone a J = some (zAcc (fun x => zOne (¬ zSeat (zW a J) x = -1 ∧ zBes (zW a J) x = 0)) 0 0 s, J) := cw_alone_4 h hs s 0 4096 0 J h4 (by omega) (by omega)
end AL
