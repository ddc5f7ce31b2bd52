/-! the first teacher who sits: both sides -/
def zFT (w : zVw) : Nat → Nat → Int32
  | _, 0 => -1
  | i, k + 1 => if ¬ zSeat w (nI i) = -1 ∧ zTch w (nI i) then nI i else zFT w (i + 1) k
section FT
variable {a s : Nat} {w : zVw} {J : zzJ}
theorem cw_first_2 (h : zCoach a) (hs : s < 4000) (h4 : J.2 a 4 = nI s) : ∀ (k i f : Nat), s = i + k → k < f → F_X0_firstTeacher_2 f a (nI i) J = some (zFT (zW a J) i k, J) := by
  intro k
  induction k with
  | zero =>
    intro i f hk hf
    obtain ⟨f, rfl⟩ : ∃ f', f = f' + 1 := ⟨f - 1, by omega⟩
    rw [F_X0_firstTeacher_2, if_pos (co_kd h), if_neg]
    · rfl
    · rw [h4, i_lt, i_nI (by omega), i_nI (by omega)]
      omega
  | succ k ih =>
    intro i f hk hf
    obtain ⟨f, rfl⟩ : ∃ f', f = f' + 1 := ⟨f - 1, by omega⟩
    have e := ih (i + 1) f (by omega) (by omega)
    rw [F_X0_firstTeacher_2, if_pos (co_kd h), if_pos (by rw [h4, i_lt, i_nI (by omega), i_nI (by omega)]; omega), cw_sits h, Option.bind_some]
    dsimp only
    rw [← nI_succ, e, zFT]
    by_cases hx : zSeat (zW a J) (nI i) = -1
    · rw [if_pos (zOne0.2 (fun z => z hx)), if_neg (fun z => z.1 hx)]
    · rw [if_neg (fun z => zOne0.1 z hx), cw_isTeacher h, Option.bind_some]
      dsimp only
      by_cases hb : zTch (zW a J) (nI i)
      · rw [if_neg (fun z => zOne0.1 z hb), if_pos ⟨hx, hb⟩]
      · rw [if_pos (zOne0.2 hb), if_neg (fun z => hb z.2), e]
theorem r_first_2 (g : zGoodV w s) (ti : zTieV J w s) : ∀ (k i f : Nat), s = i + k → k < f → F_X7_firstTeacher_2 f (nI i) J = some (zFT w i k, J) := by
  have h8 := g.1
  intro k
  induction k with
  | zero =>
    intro i f hk hf
    obtain ⟨f, rfl⟩ : ∃ f', f = f' + 1 := ⟨f - 1, by omega⟩
    rw [F_X7_firstTeacher_2, if_neg]
    · rfl
    · rw [ti.2.2.2.2.2, g.2.1, i_lt, i_nI (by omega), i_nI (by omega)]
      omega
  | succ k ih =>
    intro i f hk hf
    obtain ⟨f, rfl⟩ : ∃ f', f = f' + 1 := ⟨f - 1, by omega⟩
    have e := ih (i + 1) f (by omega) (by omega)
    have hx : zzIx (nI i) 8 := i_ix (by omega) (by omega)
    have hc : (nI i).toNatClampNeg = i := i_cm (by omega)
    have q := ti.1 i (by omega)
    have ht : zTch w (nI i) ↔ w 1 i = 5 := by
      unfold zTch
      rw [g.2.1, i_nI (by omega), i_nI (by omega), zIt_nI (by omega) (by omega)]
      exact ⟨fun z => z.2, fun z => ⟨by omega, z⟩⟩
    rw [F_X7_firstTeacher_2, if_pos (by rw [ti.2.2.2.2.2, g.2.1, i_lt, i_nI (by omega), i_nI (by omega)]; omega), if_pos hx, if_pos hx, hc, q.1, q.2.2.2, ← nI_succ, e, zFT, zSeat_nI g (by omega)]
    by_cases h5 : w 1 i = 5
    · rw [if_pos h5]
      by_cases hs : w 4 i = -1
      · rw [if_pos hs, if_neg (fun z => z.1 hs)]
      · rw [if_neg hs, if_pos ⟨hs, ht.2 h5⟩]
    · rw [if_neg h5, if_neg (fun z => h5 (ht.1 z.2))]
theorem cw_first (h : zCoach a) (hs : s < 4000) (h4 : J.2 a 4 = nI s) : F_X0_firstTeacher a J = some (zFT (zW a J) 0 s, J) := cw_first_2 h hs h4 s 0 4096 (by omega) (by omega)
theorem r_first (g : zGoodV w s) (ti : zTieV J w s) : F_X7_firstTeacher J = some (zFT w 0 s, J) := r_first_2 g ti s 0 4096 (by omega) (by have := g.1; omega)
end FT
