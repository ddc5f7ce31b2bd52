/-! the reference's words of one who sits: watched, a friend beside -/
section TD
variable {J : zzJ} {w : zVw} {s i : Nat} {x : Int32}
theorem zSit_r (g : zGoodV w s) (x : Int32) : zSit w x = -1 ∨ ∃ j, j < s ∧ zSit w x = nI j ∧ w 4 j = x := by
  unfold zSit zIt
  by_cases hc : 0 ≤ x.toInt ∧ x.toInt < 24
  · rw [if_pos hc]
    obtain ⟨k, hk, _, hk3⟩ := i_nat hc.1
    have hk4 : x.toInt.toNat = k := by omega
    rw [hk4]
    rcases g.2.2.2 k (by omega) with h | ⟨j, hj, h1, h2⟩
    · exact Or.inl h
    · exact Or.inr ⟨j, hj, h1, h2.trans hk.symm⟩
  · rw [if_neg hc]
    exact Or.inl rfl
theorem r_teacher (g : zGoodV w s) (t : zTieV J w s) (hx : x = -1 ∨ ∃ j, j < s ∧ x = nI j) : F_X7_isTeacher x J = some (zOne (zTch w x), J) := by
  have h8 := g.1
  unfold F_X7_isTeacher
  rcases hx with rfl | ⟨j, hj, rfl⟩
  · rw [if_pos rfl]
    rfl
  · rw [if_neg (i_nm1 (by omega)), if_pos (i_ix (by omega) (by omega)), i_cm (by omega), (t.1 j hj).1]
    have ht : zTch w (nI j) ↔ w 1 j = 5 := by
      unfold zTch
      rw [g.2.1, i_nI (by omega), i_nI (by omega), zIt_nI (by omega) (by omega)]
      exact ⟨fun z => z.2, fun z => ⟨by omega, z⟩⟩
    unfold zOne
    by_cases h5 : w 1 j = 5
    · rw [if_pos h5, if_pos (ht.2 h5)]
    · rw [if_neg h5, if_neg (fun z => h5 (ht.1 z))]
theorem r_watched (g : zGoodV w s) (t : zTieV J w s) (h : i < s) : F_X7_isWatched (nI i) J = some (zOne (zWat w (nI i)), J) := by
  obtain ⟨A, B, e1, e2, ho⟩ := r_two g t h
  have n1 : zNb1 w (nI i) = -1 ∨ ∃ j, j < s ∧ zNb1 w (nI i) = nI j := (zSit_r g _).imp id (fun ⟨j, a, b, _⟩ => ⟨j, a, b⟩)
  have n2 : zNb2 w (nI i) = -1 ∨ ∃ j, j < s ∧ zNb2 w (nI i) = nI j := (zSit_r g _).imp id (fun ⟨j, a, b, _⟩ => ⟨j, a, b⟩)
  have hA : A = -1 ∨ ∃ j, j < s ∧ A = nI j := by rcases ho with ⟨rfl, rfl⟩ | ⟨rfl, rfl⟩ <;> assumption
  have hB : B = -1 ∨ ∃ j, j < s ∧ B = nI j := by rcases ho with ⟨rfl, rfl⟩ | ⟨rfl, rfl⟩ <;> assumption
  have hw : zWat w (nI i) ↔ zTch w B ∨ zTch w A := by
    rcases ho with ⟨rfl, rfl⟩ | ⟨rfl, rfl⟩
    · exact Or.comm
    · exact Iff.rfl
  unfold F_X7_isWatched
  rw [e2, Option.bind_some]
  dsimp only
  rw [r_teacher g t hB, Option.bind_some]
  dsimp only
  by_cases hb : zTch w B
  · rw [if_neg (fun z => zOne0.1 z hb)]
    unfold zOne
    rw [if_pos (hw.2 (Or.inl hb))]
  · rw [if_pos (zOne0.2 hb), e1, Option.bind_some]
    dsimp only
    rw [r_teacher g t hA, Option.bind_some]
    dsimp only
    by_cases ha : zTch w A
    · rw [if_neg (fun z => zOne0.1 z ha)]
      unfold zOne
      rw [if_pos (hw.2 (Or.inr ha))]
    · rw [if_pos (zOne0.2 ha)]
      unfold zOne
      rw [if_neg (fun z => (hw.1 z).elim hb ha)]
/-- the friend sits beside one just when one of the two is the friend -/
theorem zNxt_iff (g : zGoodV w s) {j : Nat} (hj : j < s) (hi : i < s) : zNxt w (nI i) (nI j) ↔ zNb1 w (nI i) = nI j ∨ zNb2 w (nI i) = nI j := by
  have h8 := g.1
  have key : ∀ q : Int32, (¬ zSeat w (nI j) = -1 ∧ q = zSeat w (nI j)) ↔ zSit w q = nI j := by
    intro q
    rw [zSeat_nI g hj]
    constructor
    · rintro ⟨h1, rfl⟩
      rcases (g.2.2.1 j hj).2.2.2 with h | ⟨k, hk, h2, h3⟩
      · exact absurd h h1
      · rw [h2]
        unfold zSit
        rw [zIt_nI (by omega) (by omega), h3]
    · intro h1
      rcases zSit_r g q with h | ⟨m, hm, h2, h3⟩
      · exact absurd (h1.symm.trans h) (i_nm1 (by omega))
      · have e := i_inj (by omega) (by omega) (h1.symm.trans h2)
        subst e
        refine ⟨fun h4 => ?_, h3.symm⟩
        rw [← h3, h4] at h1
        exact i_nm1 (by omega) (h1.symm.trans (show zSit w (-1) = -1 from rfl))
  have k1 := key (zPair (zSeat w (nI i)))
  have k2 := key (zCross (zSeat w (nI i)))
  unfold zNb1 zNb2 zNxt
  rw [← k1, ← k2]
  constructor
  · rintro ⟨a, b | b⟩
    · exact Or.inl ⟨a, b⟩
    · exact Or.inr ⟨a, b⟩
  · rintro (⟨a, b⟩ | ⟨a, b⟩)
    · exact ⟨a, Or.inl b⟩
    · exact ⟨a, Or.inr b⟩
theorem r_friend (g : zGoodV w s) (t : zTieV J w s) (h : i < s) : F_X7_hasFriend (nI i) J = some (zOne (zNxt w (nI i) (w 3 i)), J) := by
  have h8 := g.1
  obtain ⟨A, B, e1, e2, ho⟩ := r_two g t h
  have hx : zzIx (nI i) 8 := i_ix (by omega) (by omega)
  have h52 : J.2 52 (nI i).toNatClampNeg = w 3 i := by rw [i_cm (by omega)]; exact (t.1 i h).2.2.1
  unfold F_X7_hasFriend
  rw [if_pos hx, h52]
  rcases (g.2.2.1 i h).2.2.1 with hf | ⟨j, hj, _, hf⟩
  · rw [hf, if_pos rfl]
    unfold zOne
    rw [if_neg]
    intro z
    exact z.1 rfl
  · have hw : zNxt w (nI i) (nI j) ↔ B = nI j ∨ A = nI j := by
      rw [zNxt_iff g hj h]
      rcases ho with ⟨rfl, rfl⟩ | ⟨rfl, rfl⟩
      · exact Or.comm
      · exact Iff.rfl
    rw [hf, if_neg (i_nm1 (by omega)), e2, Option.bind_some, if_pos hx]
    dsimp only
    rw [h52, hf]
    by_cases hb : B = nI j
    · rw [if_pos hb]
      unfold zOne
      rw [if_pos (hw.2 (Or.inl hb))]
    · rw [if_neg hb, e1, Option.bind_some, if_pos hx]
      dsimp only
      rw [h52, hf]
      unfold zOne
      by_cases ha : A = nI j
      · rw [if_pos ha, if_pos (hw.2 (Or.inr ha))]
      · rw [if_neg ha, if_neg (fun z => (hw.1 z).elim hb ha)]
end TD
