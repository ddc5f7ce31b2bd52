/-! loops; views that say the same; moves in thought; frames -/
theorem zC7 : zCoach 7 := Or.inl rfl
theorem n10 : ¬ (1 : Int32) = 0 := by decide
theorem zC14 : zCoach 14 := Or.inr (Or.inl rfl)
theorem zC21 : zCoach 21 := Or.inr (Or.inr rfl)
theorem zLoop {α γ : Type} {G : Nat → α → γ} {P : Nat → α → Prop} {Q : γ → Prop} {s : Nat} (h : ∀ i a, i ≤ s → P i a → (∃ b, Q b ∧ ∀ f, G (f + 1) a = b) ∨ (i < s ∧ ∃ a', P (i + 1) a' ∧ ∀ f, G (f + 1) a = G f a')) : ∀ (k i : Nat) (a : α), s = i + k → P i a → ∀ f, k < f → Q (G f a) := by
  intro k
  induction k with
  | zero =>
    intro i a hs hp f hf
    obtain ⟨f, rfl⟩ : ∃ f', f = f' + 1 := ⟨f - 1, by omega⟩
    rcases h i a (by omega) hp with ⟨b, hb, e⟩ | ⟨hi, _⟩
    · rw [e]; exact hb
    · omega
  | succ k ih =>
    intro i a hs hp f hf
    obtain ⟨f, rfl⟩ : ∃ f', f = f' + 1 := ⟨f - 1, by omega⟩
    rcases h i a (by omega) hp with ⟨b, hb, e⟩ | ⟨hi, a', hp', e⟩
    · rw [e]; exact hb
    · rw [e]; exact ih (i + 1) a' (by omega) hp' f (by omega)
/-- two views that say the same within their bounds -/
abbrev zVe (w w' : zVw) : Prop := (∀ k, 1 ≤ k → k ≤ 4 → w' 0 k = w 0 k) ∧ (∀ r, 1 ≤ r → r ≤ 4 → ∀ j, j < 8 → w' r j = w r j) ∧ ∀ j, j < 24 → w' 5 j = w 5 j
theorem zVe.rf {w : zVw} : zVe w w := ⟨fun _ _ _ => rfl, fun _ _ _ _ _ => rfl, fun _ _ => rfl⟩
theorem zVe.tr {w w' w'' : zVw} (h1 : zVe w w') (h2 : zVe w' w'') : zVe w w'' := ⟨fun k a b => (h2.1 k a b).trans (h1.1 k a b), fun r a b j c => (h2.2.1 r a b j c).trans (h1.2.1 r a b j c), fun j c => (h2.2.2 j c).trans (h1.2.2 j c)⟩
theorem zVe.sy {w w' : zVw} (h1 : zVe w w') : zVe w' w := ⟨fun k a b => (h1.1 k a b).symm, fun r a b j c => (h1.2.1 r a b j c).symm, fun j c => (h1.2.2 j c).symm⟩
section VE
variable {w w' : zVw}
theorem zIt_c {f f' : Nat → Int32} {n : Nat} (h : ∀ j, j < n → f' j = f j) (x d : Int32) : zIt f' n x d = zIt f n x d := by
  unfold zIt
  by_cases hc : 0 ≤ x.toInt ∧ x.toInt < n
  · rw [if_pos hc, if_pos hc, h _ (by omega)]
  · rw [if_neg hc, if_neg hc]
theorem zVe_seat (h : zVe w w') (x : Int32) : zSeat w' x = zSeat w x := by
  unfold zSeat
  rw [h.1 4 (by omega) (by omega)]
  by_cases hc : 0 ≤ x.toInt ∧ x.toInt < (w 0 4).toInt ∧ x.toInt < 8
  · rw [if_pos hc, if_pos hc, h.2.1 4 (by omega) (by omega) _ (by omega)]
  · rw [if_neg hc, if_neg hc]
theorem zVe_sit (h : zVe w w') (x : Int32) : zSit w' x = zSit w x := zIt_c (n := 24) h.2.2 x (-1)
theorem zVe_it (h : zVe w w') (r : Nat) (h1 : 1 ≤ r) (h2 : r ≤ 4) (x : Int32) : zIt (w' r) 8 x 0 = zIt (w r) 8 x 0 := zIt_c (n := 8) (h.2.1 r h1 h2) x 0
theorem zVe_bes (h : zVe w w') (x : Int32) : zBes w' x = zBes w x := by
  unfold zBes zNb1 zNb2
  simp only [zVe_seat h, zVe_sit h]
theorem zVe_tch (h : zVe w w') (x : Int32) : zTch w' x ↔ zTch w x := by
  unfold zTch
  rw [h.1 4 (by omega) (by omega), zVe_it h 1 (by omega) (by omega)]
theorem zVe_wat (h : zVe w w') (x : Int32) : zOne (zWat w' x) = zOne (zWat w x) := by
  have : zWat w' x ↔ zWat w x := by
    unfold zWat zNb1 zNb2
    simp only [zVe_seat h, zVe_sit h, zVe_tch h]
  unfold zOne
  by_cases hc : zWat w x
  · rw [if_pos hc, if_pos (this.2 hc)]
  · rw [if_neg hc, if_neg (fun z => hc (this.1 z))]
theorem zVe_nxt (h : zVe w w') (x y : Int32) : zOne (zNxt w' x y) = zOne (zNxt w x y) := by
  unfold zNxt
  simp only [zVe_seat h]
theorem zVe_facts (h : zVe w w') (x m : Int32) : zFacts w' x m = zFacts w x m := by
  funext k
  have e := zVe_nxt h x (zIt (w 3) 8 x 0)
  unfold zFacts
  simp only [zVe_seat h, zVe_bes h, zVe_it h 2 (by omega) (by omega), zVe_it h 3 (by omega) (by omega), e]
theorem zVe_tell (h : zVe w w') (E : zEv2) (t p : Nat) (x m : Int32) : zTell E w' t p x m = zTell E w t p x m := by
  unfold zTell
  rw [zVe_facts h]
theorem zVe_noise (h : zVe w w') (E : zEv2) (t : Nat) (x : Int32) : zNoise E w' t x = zNoise E w t x := by
  unfold zNoise
  rw [zVe_tell h, zVe_seat h, zVe_it h 2 (by omega) (by omega), zVe_it h 1 (by omega) (by omega), zVe_wat h, h.1 1 (by omega) (by omega)]
theorem zVe_queasy (h : zVe w w') (E : zEv2) (t : Nat) (x m : Int32) : zQueasy E w' t x m = zQueasy E w t x m := by
  unfold zQueasy
  rw [zVe_tell h, zVe_seat h, zVe_it h 1 (by omega) (by omega)]
theorem zVe_glad (h : zVe w w') (E : zEv2) (t : Nat) (x : Int32) : zGlad E w' t x = zGlad E w t x := by
  unfold zGlad
  have e := zVe_nxt h x (zIt (w 3) 8 x 0)
  simp only [zVe_tell h, zVe_seat h, zVe_it h 3 (by omega) (by omega), zVe_it h 1 (by omega) (by omega), e, h.1 1 (by omega) (by omega)]
theorem zVe_good {s : Nat} (h : zVe w w') (g : zGoodV w s) : zGoodV w' s := by
  have h8 := g.1
  refine ⟨g.1, by rw [h.1 4 (by omega) (by omega)]; exact g.2.1, fun i hi => ?_, fun k hk => ?_⟩
  · have q := g.2.2.1 i hi
    rw [h.2.1 1 (by omega) (by omega) i (by omega), h.2.1 2 (by omega) (by omega) i (by omega), h.2.1 3 (by omega) (by omega) i (by omega), h.2.1 4 (by omega) (by omega) i (by omega)]
    refine ⟨q.1, q.2.1, q.2.2.1, q.2.2.2.imp id (fun ⟨k, a, b, c⟩ => ⟨k, a, b, ?_⟩)⟩
    rw [h.2.2 k a]; exact c
  · rw [h.2.2 k hk]
    refine (g.2.2.2 k hk).imp id (fun ⟨i, a, b, c⟩ => ⟨i, a, b, ?_⟩)
    rw [h.2.1 4 (by omega) (by omega) i (by omega)]; exact c
theorem zVe_tie {s : Nat} {J : zzJ} (h : zVe w w') (h8 : s ≤ 8) (ti : zTieV J w s) : zTieV J w' s := by
  refine ⟨fun i hi => ?_, fun k hk => (ti.2.1 k hk).trans (h.2.2 k hk).symm, ti.2.2.1.trans (h.1 1 (by omega) (by omega)).symm, ti.2.2.2.1.trans (h.1 2 (by omega) (by omega)).symm, ti.2.2.2.2.1.trans (h.1 3 (by omega) (by omega)).symm, ti.2.2.2.2.2.trans (h.1 4 (by omega) (by omega)).symm⟩
  have q := ti.1 i hi
  rw [h.2.1 1 (by omega) (by omega) i (by omega), h.2.1 2 (by omega) (by omega) i (by omega), h.2.1 3 (by omega) (by omega) i (by omega), h.2.1 4 (by omega) (by omega) i (by omega)]
  exact q
end VE
/-- a view after a move -/
def zMv (w : zVw) (i : Nat) (q : Int32) : zVw := fun r j => if r = 4 then (if j = i then q else w 4 j) else if r = 5 then (if nI j = q then nI i else if nI j = w 4 i then -1 else w 5 j) else w r j
section MW
variable {w : zVw} {s i : Nat} {q : Int32} {J : zzJ} {a : Nat}
theorem zMv_0 {r : Nat} (h : r < 4) : zMv w i q r = w r := by
  funext j
  unfold zMv
  rw [if_neg (by omega), if_neg (by omega)]
theorem zMv_4 (j : Nat) : zMv w i q 4 j = if j = i then q else w 4 j := rfl
theorem zMv_5 (j : Nat) : zMv w i q 5 j = if nI j = q then nI i else if nI j = w 4 i then -1 else w 5 j := rfl
abbrev zQok (q : Int32) : Prop := q = -1 ∨ ∃ k, k < 24 ∧ q = nI k
abbrev zOpen (w : zVw) (i : Nat) (q : Int32) : Prop := q = -1 ∨ ∃ k, k < 24 ∧ q = nI k ∧ (w 5 k = -1 ∨ w 5 k = nI i)
theorem zOpen.ok (h : zOpen w i q) : zQok q := h.imp id (fun ⟨k, a, b, _⟩ => ⟨k, a, b⟩)
theorem zMv_good (g : zGoodV w s) (hi : i < s) (hq : zOpen w i q) : zGoodV (zMv w i q) s := good_mv g hi hq (fun r hr => zMv_0 hr) zMv_4 (fun j _ => zMv_5 j)
theorem zVe_mv {w' : zVw} (h : zVe w w') (hi : i < 8) : zVe (zMv w i q) (zMv w' i q) := by
  refine ⟨fun k a b => by rw [zMv_0 (by omega), zMv_0 (by omega)]; exact h.1 k a b, fun r h1 h2 j hj => ?_, fun j hj => ?_⟩
  · by_cases h4 : r = 4
    · subst h4
      rw [zMv_4, zMv_4, h.2.1 4 (by omega) (by omega) j hj]
    · rw [zMv_0 (by omega), zMv_0 (by omega), h.2.1 r (by omega) (by omega) j hj]
  · rw [zMv_5, zMv_5, h.2.2 j hj, h.2.1 4 (by omega) (by omega) i hi]
/-- the class moves one -/
theorem t_move (h : zCoach a) (v : zVe w (zW a J)) (g : zGoodV w s) (hi : i < s) (hq : zQok q) : ∃ J1, F_X0_move a (nI i) q J = some J1 ∧ zVe (zMv w i q) (zW a J1) ∧ J1.1 = J.1 ∧ ∀ b, b ≠ a + 4 → b ≠ a + 5 → J1.2 b = J.2 b := by
  have h8 := g.1
  obtain ⟨J1, e, a1, b1, c1, d1⟩ := cw_move h (zVe_good v g) hi hq
  refine ⟨J1, e, ?_, a1, b1⟩
  refine (zVe_mv (i := i) (q := q) v (by omega)).tr ⟨fun k x y => ?_, fun r x y j hj => ?_, fun j hj => ?_⟩
  · rw [zMv_0 (by omega)]
    show J1.2 (a + 0) k = J.2 (a + 0) k
    rw [b1 _ (by omega) (by omega)]
  · by_cases h4 : r = 4
    · subst h4
      rw [zMv_4]
      exact c1 j
    · rw [zMv_0 (by omega)]
      show J1.2 (a + r) j = J.2 (a + r) j
      rw [b1 _ (by omega) (by omega)]
  · rw [zMv_5]
    exact d1 j hj
/-- the reference moves one -/
theorem m_seats (g : zGoodV w s) (ti : zTieV J w s) (hi : i < s) (hq : zQok q) : ∃ J1, F_X7_seats (nI i) q J = some J1 ∧ zTieV J1 (zMv w i q) s ∧ J1.1 = J.1 ∧ ∀ b, b ≠ 53 → b ≠ 54 → J1.2 b = J.2 b := by
  obtain ⟨J1, e, a1, b1, c1, d1⟩ := r_seats g ti hi hq
  exact ⟨J1, e, tie_mv ti hi (fun r hr => zMv_0 hr) zMv_4 (fun j _ => zMv_5 j) b1 c1 d1, a1, b1⟩
/-- a move after a move of the same one -/
theorem zMv_mv {q2 : Int32} (g : zGoodV w s) (hi : i < s) (hq : zOpen w i q) : zVe (zMv (zMv w i q) i q2) (zMv w i q2) := by
  have h8 := g.1
  refine ⟨fun k _ _ => by rw [zMv_0 (by omega), zMv_0 (by omega), zMv_0 (by omega)], fun r h1 h2 j hj => ?_, fun j hj => ?_⟩
  · by_cases h4 : r = 4
    · subst h4
      rw [zMv_4, zMv_4, zMv_4]
      split <;> rfl
    · rw [zMv_0 (by omega), zMv_0 (by omega), zMv_0 (by omega)]
  · rw [zMv_5, zMv_5, zMv_5, zMv_4, if_pos rfl]
    by_cases e2 : nI j = q2
    · rw [if_pos e2, if_pos e2]
    · rw [if_neg e2, if_neg e2]
      by_cases e1 : nI j = q
      · rw [if_pos e1]
        rcases hq with h | ⟨k, hk, h, h5⟩
        · exact absurd (e1.trans h) (i_nm1 (by omega))
        · have e := i_inj (by omega) (by omega) (e1.trans h)
          subst e
          rcases h5 with h5 | h5
          · rw [h5]; split <;> rfl
          · rcases g.2.2.2 j hj with y | ⟨i2, hi2, y, y4⟩
            · exact absurd (h5.symm.trans y) (i_nm1 (by omega))
            · have e := i_inj (by omega) (by omega) (h5.symm.trans y)
              subst e
              rw [if_pos y4.symm]
      · rw [if_neg e1, if_neg e1]
theorem zMv_back {k : Nat} (g : zGoodV w s) (hi : i < s) (h4 : w 4 i = nI k) (hk : k < 24) : w 5 k = nI i := by
  have h8 := g.1
  rcases (g.2.2.1 i hi).2.2.2 with y | ⟨k2, hk2, y, y5⟩
  · exact absurd (h4.symm.trans y) (i_nm1 (by omega))
  · have e := i_inj (by omega) (by omega) (h4.symm.trans y)
    subst e
    exact y5
theorem zMv_own (g : zGoodV w s) (hi : i < s) : zVe (zMv w i (w 4 i)) w := by
  have h8 := g.1
  refine ⟨fun k _ _ => by rw [zMv_0 (by omega)], fun r h1 h2 j hj => ?_, fun j hj => ?_⟩
  · by_cases h4 : r = 4
    · subst h4
      rw [zMv_4]
      split
      · next h => rw [h]
      · rfl
    · rw [zMv_0 (by omega)]
  · rw [zMv_5]
    split
    · next h => exact zMv_back g hi h.symm hj
    · rfl
theorem zOwn_open (g : zGoodV w s) (hi : i < s) : zOpen w i (w 4 i) := (g.2.2.1 i hi).2.2.2.imp id (fun ⟨k, a, b, c⟩ => ⟨k, a, b, Or.inr c⟩)
end MW
