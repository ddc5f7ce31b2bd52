/-! the reference's rows and a coach's view: the tie -/
/-- a view that keeps the document's bounds; s is how many -/
abbrev zGoodV (w : zVw) (s : Nat) : Prop :=
  s ≤ 8 ∧ w 0 4 = nI s ∧
  (∀ i, i < s → (∃ k, k < 6 ∧ w 1 i = nI k) ∧ (∃ k, k < 10 ∧ w 2 i = nI k) ∧ (w 3 i = -1 ∨ ∃ j, j < s ∧ j ≠ i ∧ w 3 i = nI j) ∧ (w 4 i = -1 ∨ ∃ k, k < 24 ∧ w 4 i = nI k ∧ w 5 k = nI i)) ∧
  (∀ k, k < 24 → w 5 k = -1 ∨ ∃ i, i < s ∧ w 5 k = nI i ∧ w 4 i = nI k)
/-- the reference's rows say the same as a coach's view -/
abbrev zTieV (J : zzJ) (w : zVw) (s : Nat) : Prop :=
  (∀ i, i < s → J.2 50 i = w 1 i ∧ J.2 51 i = w 2 i ∧ J.2 52 i = w 3 i ∧ J.2 53 i = w 4 i) ∧
  (∀ k, k < 24 → J.2 54 k = w 5 k) ∧ J.2 46 7 = w 0 1 ∧ J.2 46 8 = w 0 2 ∧ J.2 46 4 = w 0 3 ∧ J.2 46 14 = w 0 4
section TI
variable {J : zzJ} {w : zVw} {s i : Nat} {x : Int32}
theorem i_ix {m : Nat} (h : i < m) (hm : m < 2147483648) : zzIx (nI i) m := by
  rw [ix_iff, i_nI (by omega)]
  omega
theorem i_cm {k : Nat} (h : k < 2147483648) : (nI k).toNatClampNeg = k := nI_clamp (by omega)
theorem i_inj {k m : Nat} (h : k < 2147483648) (hm : m < 2147483648) (e : nI k = nI m) : k = m := by
  have e2 := congrArg Int32.toInt e
  rw [i_nI h, i_nI hm] at e2
  omega
theorem i_nm1 {k : Nat} (h : k < 2147483648) : nI k ≠ -1 := fun e => by
  have e2 := congrArg Int32.toInt e
  rw [i_nI h, show (-1 : Int32).toInt = -1 from rfl] at e2
  omega
theorem zIt_nI {f : Nat → Int32} {n : Int} {d : Int32} (h : (i : Int) < n) (h2 : i < 2147483648) : zIt f n (nI i) d = f i := by
  unfold zIt
  rw [i_nI h2, if_pos ⟨by omega, h⟩]
  rfl
theorem zSeat_nI (g : zGoodV w s) (h : i < s) : zSeat w (nI i) = w 4 i := by
  have := g.1
  unfold zSeat
  rw [g.2.1, i_nI (by omega), i_nI (by omega), if_pos (by omega)]
  rfl
theorem zIt_congr {f f' : Nat → Int32} (h : ∀ k, k < 24 → f k = f' k) : zIt f 24 x (-1) = zIt f' 24 x (-1) := by
  unfold zIt
  by_cases hc : 0 ≤ x.toInt ∧ x.toInt < 24
  · rw [if_pos hc, if_pos hc, h _ (by omega)]
  · rw [if_neg hc, if_neg hc]
theorem zTo2_p : ∀ k, k < 24 → (zRem (nI k) 2 = 0 → zTo2 (nI k) 1 = zPair (nI k) ∧ zTo2 (nI k) (-1) = zCross (nI k)) ∧ (¬ zRem (nI k) 2 = 0 → zTo2 (nI k) 1 = zCross (nI k) ∧ zTo2 (nI k) (-1) = zPair (nI k)) := by
  decide
/-- the two beside one: the reference's right and left are the class's two, in one of the two orders -/
theorem r_two (g : zGoodV w s) (t : zTieV J w s) (h : i < s) : ∃ A B : Int32, F_X7_neighbour (nI i) 1 J = some (A, J) ∧ F_X7_neighbour (nI i) (-1) J = some (B, J) ∧ ((A = zNb1 w (nI i) ∧ B = zNb2 w (nI i)) ∨ (A = zNb2 w (nI i) ∧ B = zNb1 w (nI i))) := by
  have h8 := g.1
  have hx : zzIx (nI i) 8 := i_ix (by omega) (by omega)
  have hz := zSeat_nI g h
  have h53 : J.2 53 (nI i).toNatClampNeg = w 4 i := by rw [i_cm (by omega)]; exact (t.1 i h).2.2.2
  unfold zNb1 zNb2 zSit
  rw [hz]
  rcases (g.2.2.1 i h).2.2.2 with hs | ⟨k, hk, hs, _⟩
  · rw [hs] at h53 ⊢
    exact ⟨-1, -1, r_nb0 hx h53, r_nb0 hx h53, Or.inl ⟨rfl, rfl⟩⟩
  · rw [hs] at h53 ⊢
    have z := zTo2_p k hk
    refine ⟨_, _, r_nb1 hx h53 hk, r_nbm hx h53 hk, ?_⟩
    rw [zIt_congr t.2.1, zIt_congr t.2.1]
    by_cases he : zRem (nI k) 2 = 0
    · rw [(z.1 he).1, (z.1 he).2]
      exact Or.inl ⟨rfl, rfl⟩
    · rw [(z.2 he).1, (z.2 he).2]
      exact Or.inr ⟨rfl, rfl⟩
theorem r_beside (g : zGoodV w s) (t : zTieV J w s) (h : i < s) : F_X7_besideOf (nI i) J = some (zBes w (nI i), J) := by
  obtain ⟨A, B, e1, e2, ho⟩ := r_two g t h
  unfold F_X7_besideOf F_X7_besideOf_15 zBes
  rw [e2, Option.bind_some]
  dsimp only
  rw [e1, Option.bind_some]
  dsimp only
  unfold zOne
  rcases ho with ⟨rfl, rfl⟩ | ⟨rfl, rfl⟩ <;> by_cases h1 : zNb1 w (nI i) = -1 <;> by_cases h2 : zNb2 w (nI i) = -1 <;> simp [h1, h2]
end TI
