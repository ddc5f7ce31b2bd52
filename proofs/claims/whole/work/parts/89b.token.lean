/-! text: the class's tokens -/
theorem opt_id {α : Type} (x : Option α) : (Option.bind x fun q => some q) = x := by cases x <;> rfl
theorem tx_len : ∀ i, i < 12 → (zzTx (i + 1)).length ≤ 8 ∧ ∀ j, j < 8 → (zzTx (i + 1)).getD j 0 < 256 := by decide +kernel
theorem i_nm2 {k : Nat} (h : k < 2147483646) : nI k ≠ -2 := fun e => by
  have h1 : (nI k).toInt = k := i_nI (by omega)
  have h2 : (-2 : Int32).toInt = -2 := rfl
  rw [e] at h1
  omega
section TB
variable {J J1 J2 : zzJ} {b : Nat → Nat} {m p q e i j k x : Nat}
theorem b_spell (hi : i < 12) : F_X2_spelling (nI (10000 + i)) J = some (some (1000 + (i + 1)), J) := by
  have : i = 0 ∨ i = 1 ∨ i = 2 ∨ i = 3 ∨ i = 4 ∨ i = 5 ∨ i = 6 ∨ i = 7 ∨ i = 8 ∨ i = 9 ∨ i = 10 ∨ i = 11 := by omega
  rcases this with rfl | rfl | rfl | rfl | rfl | rfl | rfl | rfl | rfl | rfl | rfl | rfl <;> rfl
theorem b_isWord (t : zTp J b m) (h3 : J.2 5 3 = nI p) (h4 : J.2 5 4 = nI e) (hpe : p ≤ e) (he : e ≤ m) (hi : i < 12) : F_X2_isWord (1000 + (i + 1)) J = some (zOne (zMt b p e (zzTx (i + 1))), J) := by
  have hm := t.1
  obtain ⟨hw, hw2⟩ := tx_len i hi
  have c1 : 1000 ≤ 1000 + (i + 1) ∧ 1000 + (i + 1) < 1013 := by omega
  have es : 1000 + (i + 1) - 1000 = i + 1 := by omega
  unfold F_X2_isWord
  rw [if_pos c1, es, h3, h4, show nI e - nI p = nI (e - p) from pk_sub (by omega)]
  by_cases hl : (zzTx (i + 1)).length = e - p
  · rw [if_pos (show Int32.ofNat (zzTx (i + 1)).length = nI (e - p) by rw [hl]; rfl)]
    refine zLoop (G := fun fu (j : Nat) => F_X2_isWord_20 fu (1000 + (i + 1)) (nI j) J) (P := fun k j => j = k ∧ ∀ q, q < k → (zzTx (i + 1)).getD q 0 = b (p + q)) (Q := fun r => r = some (zOne (zMt b p e (zzTx (i + 1))), J)) (s := e - p) ?_ (e - p) 0 0 (by omega) ⟨rfl, fun q hq => absurd hq (by omega)⟩ 4096 (by omega)
    rintro k j hk ⟨rfl, hP⟩
    by_cases hlt : j < e - p
    · have hb : F_X2_byteAt (nI p + nI j) J = some (nI (b (p + j)), J) := by
        rw [nI_add, b_byte t (by omega), if_pos (by omega)]
      by_cases hq : (zzTx (i + 1)).getD j 0 = b (p + j)
      · right
        refine ⟨hlt, j + 1, ⟨rfl, fun q hq2 => ?_⟩, fun fu => ?_⟩
        · by_cases hqj : q = j
          · rw [hqj]; exact hq
          · exact hP q (by omega)
        · rw [F_X2_isWord_20, if_pos c1, es, if_pos (show nI j < Int32.ofNat (zzTx (i + 1)).length from (i_lts (by omega) (by omega)).2 (by omega)), if_pos c1, if_pos (i_ix (by omega) (by omega)), h3, hb, Option.bind_some, i_cm (by omega), ← nI_succ]
          dsimp only
          rw [if_pos (show Int32.ofNat ((zzTx (i + 1)).getD j 0) = nI (b (p + j)) by rw [hq]; rfl)]
      · left
        refine ⟨_, rfl, fun fu => ?_⟩
        · rw [F_X2_isWord_20, if_pos c1, es, if_pos (show nI j < Int32.ofNat (zzTx (i + 1)).length from (i_lts (by omega) (by omega)).2 (by omega)), if_pos c1, if_pos (i_ix (by omega) (by omega)), h3, hb, Option.bind_some, i_cm (by omega)]
          dsimp only
          have h8 := hw2 j (by omega)
          have h9 := t.2.2.2 (p + j)
          rw [if_neg (show ¬ Int32.ofNat ((zzTx (i + 1)).getD j 0) = nI (b (p + j)) from fun q => hq (i_inj (by omega) (by omega) q)), zOne_f (fun z => hq (z.2 j (by omega)))]
    · left
      obtain rfl : j = e - p := by omega
      refine ⟨_, rfl, fun fu => ?_⟩
      rw [F_X2_isWord_20, if_pos c1, es, if_neg (show ¬ nI (e - p) < Int32.ofNat (zzTx (i + 1)).length from fun q => by have := (i_lts (by omega) (by omega)).1 q; omega), zOne_t ⟨by omega, fun j hj => hP j (by omega)⟩]
  · rw [if_neg (show ¬ Int32.ofNat (zzTx (i + 1)).length = nI (e - p) from fun q => hl (i_inj (by omega) (by omega) q)), zOne_f (fun z => hl (by have := z.1; omega))]
theorem zWi_v : ∀ (f i : Nat), i + f = 12 → zWi b p e f i = -2 ∨ ∃ j, j < 12 ∧ zWi b p e f i = nI (10000 + j) ∧ zMt b p e (zzTx (j + 1)) := by
  intro f
  induction f with
  | zero => intro i _; exact Or.inl rfl
  | succ f ih =>
    intro i hi
    rw [zWi]
    split
    · rename_i h
      exact Or.inr ⟨i, by omega, rfl, h⟩
    · exact ih (i + 1) (by omega)
theorem b_word42 (t : zTp J b m) (h3 : J.2 5 3 = nI p) (h4 : J.2 5 4 = nI e) (hpe : p ≤ e) (he : e ≤ m) : ∀ (f i fu : Nat), i + f = 12 → f < fu → F_X2_advanceWord_42 fu (nI (10000 + i)) J = if zWi b p e f i = -2 then F_X2_fail J else some (wI J 5 5 (zWi b p e f i)) := by
  intro f
  induction f with
  | zero =>
    intro i fu hi hf
    obtain ⟨fu, rfl⟩ : ∃ q, fu = q + 1 := ⟨fu - 1, by omega⟩
    rw [F_X2_advanceWord_42, if_pos (show (10011 : Int32) < nI (10000 + i) by rw [show (10011 : Int32) = nI 10011 from rfl, i_lt, i_nI (by omega), i_nI (by omega)]; omega), opt_id, zWi, if_pos rfl]
  | succ f ih =>
    intro i fu hi hf
    obtain ⟨fu, rfl⟩ : ∃ q, fu = q + 1 := ⟨fu - 1, by omega⟩
    rw [F_X2_advanceWord_42, if_neg (show ¬ (10011 : Int32) < nI (10000 + i) by rw [show (10011 : Int32) = nI 10011 from rfl, i_lt, i_nI (by omega), i_nI (by omega)]; omega), b_spell (by omega), Option.bind_some]
    dsimp only
    rw [Option.bind_some, b_isWord t h3 h4 hpe he (by omega), Option.bind_some, zWi]
    by_cases hz : zMt b p e (zzTx (i + 1))
    · rw [zOne_t hz, if_pos hz, if_neg (fun q => i_nm2 (k := 10000 + i) (by omega) q)]
      exact if_neg n10
    · rw [zOne_f hz, if_neg hz, ← ih (i + 1) fu (by omega) (by omega)]
      refine (if_pos rfl).trans ?_
      dsimp only
      rw [nI_1, Nat.add_assoc]
theorem b_sign (hx : x < 256) : F_X2_advanceSign (nI x) J = if zSgn x = true then some (wI (wI J 5 4 ((J.2 5 4) + (1 : Int32))) 5 5 ((11000 : Int32) + nI x)) else F_X2_fail (wI J 5 4 ((J.2 5 4) + (1 : Int32))) := by
  unfold F_X2_advanceSign
  by_cases h40 : x = 40
  · subst h40
    rw [if_pos (show nI 40 = (40 : Int32) from rfl), if_pos (show zSgn 40 = true from rfl)]
  rw [if_neg (show ¬ nI x = (40 : Int32) from fun q => h40 (i_inj (k := x) (m := 40) (by omega) (by omega) q))]
  by_cases h41 : x = 41
  · subst h41
    rw [if_pos (show nI 41 = (41 : Int32) from rfl), if_pos (show zSgn 41 = true from rfl)]
  rw [if_neg (show ¬ nI x = (41 : Int32) from fun q => h41 (i_inj (k := x) (m := 41) (by omega) (by omega) q))]
  by_cases h42 : x = 42
  · subst h42
    rw [if_pos (show nI 42 = (42 : Int32) from rfl), if_pos (show zSgn 42 = true from rfl)]
  rw [if_neg (show ¬ nI x = (42 : Int32) from fun q => h42 (i_inj (k := x) (m := 42) (by omega) (by omega) q))]
  by_cases h43 : x = 43
  · subst h43
    rw [if_pos (show nI 43 = (43 : Int32) from rfl), if_pos (show zSgn 43 = true from rfl)]
  rw [if_neg (show ¬ nI x = (43 : Int32) from fun q => h43 (i_inj (k := x) (m := 43) (by omega) (by omega) q))]
  by_cases h44 : x = 44
  · subst h44
    rw [if_pos (show nI 44 = (44 : Int32) from rfl), if_neg (show ¬ zSgn 44 = true by decide), opt_id]
  rw [if_neg (show ¬ nI x = (44 : Int32) from fun q => h44 (i_inj (k := x) (m := 44) (by omega) (by omega) q))]
  by_cases h45 : x = 45
  · subst h45
    rw [if_pos (show nI 45 = (45 : Int32) from rfl), if_pos (show zSgn 45 = true from rfl)]
  rw [if_neg (show ¬ nI x = (45 : Int32) from fun q => h45 (i_inj (k := x) (m := 45) (by omega) (by omega) q))]
  by_cases h46 : x = 46
  · subst h46
    rw [if_pos (show nI 46 = (46 : Int32) from rfl), if_neg (show ¬ zSgn 46 = true by decide), opt_id]
  rw [if_neg (show ¬ nI x = (46 : Int32) from fun q => h46 (i_inj (k := x) (m := 46) (by omega) (by omega) q))]
  by_cases h47 : x = 47
  · subst h47
    rw [if_pos (show nI 47 = (47 : Int32) from rfl), if_neg (show ¬ zSgn 47 = true by decide), opt_id]
  rw [if_neg (show ¬ nI x = (47 : Int32) from fun q => h47 (i_inj (k := x) (m := 47) (by omega) (by omega) q))]
  by_cases h48 : x = 48
  · subst h48
    rw [if_pos (show nI 48 = (48 : Int32) from rfl), if_neg (show ¬ zSgn 48 = true by decide), opt_id]
  rw [if_neg (show ¬ nI x = (48 : Int32) from fun q => h48 (i_inj (k := x) (m := 48) (by omega) (by omega) q))]
  by_cases h49 : x = 49
  · subst h49
    rw [if_pos (show nI 49 = (49 : Int32) from rfl), if_neg (show ¬ zSgn 49 = true by decide), opt_id]
  rw [if_neg (show ¬ nI x = (49 : Int32) from fun q => h49 (i_inj (k := x) (m := 49) (by omega) (by omega) q))]
  by_cases h50 : x = 50
  · subst h50
    rw [if_pos (show nI 50 = (50 : Int32) from rfl), if_neg (show ¬ zSgn 50 = true by decide), opt_id]
  rw [if_neg (show ¬ nI x = (50 : Int32) from fun q => h50 (i_inj (k := x) (m := 50) (by omega) (by omega) q))]
  by_cases h51 : x = 51
  · subst h51
    rw [if_pos (show nI 51 = (51 : Int32) from rfl), if_neg (show ¬ zSgn 51 = true by decide), opt_id]
  rw [if_neg (show ¬ nI x = (51 : Int32) from fun q => h51 (i_inj (k := x) (m := 51) (by omega) (by omega) q))]
  by_cases h52 : x = 52
  · subst h52
    rw [if_pos (show nI 52 = (52 : Int32) from rfl), if_neg (show ¬ zSgn 52 = true by decide), opt_id]
  rw [if_neg (show ¬ nI x = (52 : Int32) from fun q => h52 (i_inj (k := x) (m := 52) (by omega) (by omega) q))]
  by_cases h53 : x = 53
  · subst h53
    rw [if_pos (show nI 53 = (53 : Int32) from rfl), if_neg (show ¬ zSgn 53 = true by decide), opt_id]
  rw [if_neg (show ¬ nI x = (53 : Int32) from fun q => h53 (i_inj (k := x) (m := 53) (by omega) (by omega) q))]
  by_cases h54 : x = 54
  · subst h54
    rw [if_pos (show nI 54 = (54 : Int32) from rfl), if_neg (show ¬ zSgn 54 = true by decide), opt_id]
  rw [if_neg (show ¬ nI x = (54 : Int32) from fun q => h54 (i_inj (k := x) (m := 54) (by omega) (by omega) q))]
  by_cases h55 : x = 55
  · subst h55
    rw [if_pos (show nI 55 = (55 : Int32) from rfl), if_neg (show ¬ zSgn 55 = true by decide), opt_id]
  rw [if_neg (show ¬ nI x = (55 : Int32) from fun q => h55 (i_inj (k := x) (m := 55) (by omega) (by omega) q))]
  by_cases h56 : x = 56
  · subst h56
    rw [if_pos (show nI 56 = (56 : Int32) from rfl), if_neg (show ¬ zSgn 56 = true by decide), opt_id]
  rw [if_neg (show ¬ nI x = (56 : Int32) from fun q => h56 (i_inj (k := x) (m := 56) (by omega) (by omega) q))]
  by_cases h57 : x = 57
  · subst h57
    rw [if_pos (show nI 57 = (57 : Int32) from rfl), if_neg (show ¬ zSgn 57 = true by decide), opt_id]
  rw [if_neg (show ¬ nI x = (57 : Int32) from fun q => h57 (i_inj (k := x) (m := 57) (by omega) (by omega) q))]
  by_cases h58 : x = 58
  · subst h58
    rw [if_pos (show nI 58 = (58 : Int32) from rfl), if_neg (show ¬ zSgn 58 = true by decide), opt_id]
  rw [if_neg (show ¬ nI x = (58 : Int32) from fun q => h58 (i_inj (k := x) (m := 58) (by omega) (by omega) q))]
  by_cases h59 : x = 59
  · subst h59
    rw [if_pos (show nI 59 = (59 : Int32) from rfl), if_pos (show zSgn 59 = true from rfl)]
  rw [if_neg (show ¬ nI x = (59 : Int32) from fun q => h59 (i_inj (k := x) (m := 59) (by omega) (by omega) q))]
  by_cases h60 : x = 60
  · subst h60
    rw [if_pos (show nI 60 = (60 : Int32) from rfl), if_pos (show zSgn 60 = true from rfl)]
  rw [if_neg (show ¬ nI x = (60 : Int32) from fun q => h60 (i_inj (k := x) (m := 60) (by omega) (by omega) q))]
  by_cases h61 : x = 61
  · subst h61
    rw [if_pos (show nI 61 = (61 : Int32) from rfl), if_pos (show zSgn 61 = true from rfl)]
  rw [if_neg (show ¬ nI x = (61 : Int32) from fun q => h61 (i_inj (k := x) (m := 61) (by omega) (by omega) q))]
  rw [if_neg (show ¬ zSgn x = true by unfold zSgn; simp; omega), opt_id]
/-- the class's reader goes one token on -/
theorem t_word (t : zTp J b m) (h3 : J.2 5 3 = nI p) (h4 : J.2 5 4 = nI p) (hp : p < m) : ∃ J1, zFrT J J1 ∧ J1.2 5 3 = nI p ∧ J1.2 5 4 = nI (zSkip zLtr b m (m - p) p) ∧ J1.2 5 6 = J.2 5 6 ∧ F_X2_advanceWord J = F_X2_advanceWord_42 4096 (nI (10000 + 0)) J1 := by
  have hm := t.1
  generalize hE : zSkip zLtr b m (m - p) p = E
  refine zLoop (G := fun fu (q : Nat × zzJ) => F_X2_advanceWord_0 fu q.2) (P := fun k q => q.1 = k ∧ zSkip zLtr b m (m - k) k = E ∧ zFrT J q.2 ∧ q.2.2 5 3 = nI p ∧ q.2.2 5 4 = nI k ∧ q.2.2 5 6 = J.2 5 6) (Q := fun r => ∃ J1, zFrT J J1 ∧ J1.2 5 3 = nI p ∧ J1.2 5 4 = nI E ∧ J1.2 5 6 = J.2 5 6 ∧ r = F_X2_advanceWord_42 4096 (nI (10000 + 0)) J1) (s := m) ?_ (m - p) p (p, J) (by omega) ⟨rfl, hE, zFrT.rf, h3, h4, rfl⟩ 4096 (by omega)
  rintro k ⟨k2, J'⟩ hk ⟨rfl, hP, fr, a3, a4, a6⟩
  dsimp only at hk hP fr a3 a4 a6 ⊢
  have t' := t.fr fr
  by_cases hlt : k2 < m
  · have st : ∀ fu, F_X2_advanceWord_0 (fu + 1) J' = (if zOne (zLtr (b k2) = true) = (0 : Int32) then F_X2_advanceWord_42 4096 (10000 : Int32) J' else F_X2_advanceWord_0 fu (wI J' 5 4 (nI (k2 + 1)))) := by
      intro fu
      rw [F_X2_advanceWord_0, a4, t'.2.1, if_pos ((i_lts (by omega) (by omega)).2 hlt), b_byte t' (by omega), if_pos hlt, Option.bind_some]
      dsimp only
      rw [b_letter (t.2.2.2 k2), Option.bind_some]
      dsimp only
      rw [a4, ← nI_succ]
    by_cases hl : zLtr (b k2) = true
    · right
      refine ⟨hlt, (k2 + 1, wI J' 5 4 (nI (k2 + 1))), ⟨rfl, (zSkip_go hlt hl).symm.trans hP, fr.tr (zFrT.wr (by omega)), ?_, ?_, ?_⟩, fun fu => ?_⟩
      · dsimp only; rw [wI_g, if_neg (by omega)]; exact a3
      · dsimp only; rw [wI_g, if_pos rfl]
      · dsimp only; rw [wI_g, if_neg (by omega)]; exact a6
      · rw [st, zOne_t hl]
        exact if_neg n10
    · left
      rw [zSkip_no (fun q => hl q.2)] at hP
      refine ⟨_, ⟨J', fr, a3, by rw [← hP]; exact a4, a6, rfl⟩, fun fu => ?_⟩
      rw [st, zOne_f hl]
      exact if_pos rfl
  · left
    rw [zSkip_no (fun q => hlt q.1)] at hP
    refine ⟨_, ⟨J', fr, a3, by rw [← hP]; exact a4, a6, rfl⟩, fun fu => ?_⟩
    rw [F_X2_advanceWord_0, a4, t'.2.1, if_neg (fun q => hlt ((i_lts (by omega) (by omega)).1 q))]
    rfl
theorem t_number (t : zTp J b m) (h3 : J.2 5 3 = nI p) (h4 : J.2 5 4 = nI p) (hp : p < m) : ∃ J1, zFrT J J1 ∧ J1.2 5 3 = nI p ∧ J1.2 5 4 = nI (zSkip zDgt b m (m - p) p) ∧ J1.2 5 6 = J.2 5 6 ∧ F_X2_advanceNumber J = F_X2_advanceNumber_57 (zNv b p (zSkip zDgt b m (m - p) p - p)) J1 := by
  have hm := t.1
  generalize hE : zSkip zDgt b m (m - p) p = E
  refine zLoop (G := fun fu (q : Nat × zzJ) => F_X2_advanceNumber_2 fu (zNv b p (q.1 - p)) q.2) (P := fun k q => q.1 = k ∧ p ≤ k ∧ zSkip zDgt b m (m - k) k = E ∧ zFrT J q.2 ∧ q.2.2 5 3 = nI p ∧ q.2.2 5 4 = nI k ∧ q.2.2 5 6 = J.2 5 6) (Q := fun r => ∃ J1, zFrT J J1 ∧ J1.2 5 3 = nI p ∧ J1.2 5 4 = nI E ∧ J1.2 5 6 = J.2 5 6 ∧ r = F_X2_advanceNumber_57 (zNv b p (E - p)) J1) (s := m) ?_ (m - p) p (p, J) (by omega) ⟨rfl, Nat.le_refl p, hE, zFrT.rf, h3, h4, rfl⟩ 4096 (by omega) |> fun h => by
    have e0 : zNv b p (p - p) = 0 := by rw [Nat.sub_self]; rfl
    dsimp only at h
    rw [e0] at h
    exact h
  rintro k ⟨k2, J'⟩ hk ⟨rfl, hpk, hP, fr, a3, a4, a6⟩
  dsimp only at hk hpk hP fr a3 a4 a6 ⊢
  have t' := t.fr fr
  by_cases hlt : k2 < m
  · have st : ∀ fu, F_X2_advanceNumber_2 (fu + 1) (zNv b p (k2 - p)) J' = (if zOne (zDgt (b k2) = true) = (0 : Int32) then F_X2_advanceNumber_57 (zNv b p (k2 - p)) J' else F_X2_advanceNumber_2 fu (((zNv b p (k2 - p) * (10 : Int32)) + nI (b k2)) - (48 : Int32)) (wI J' 5 4 (nI (k2 + 1)))) := by
      intro fu
      rw [F_X2_advanceNumber_2, a4, t'.2.1, if_pos ((i_lts (by omega) (by omega)).2 hlt), b_byte t' (by omega), if_pos hlt, Option.bind_some]
      dsimp only
      rw [b_digit (t.2.2.2 k2), Option.bind_some]
      dsimp only
      rw [a4, b_byte t' (by omega), if_pos hlt, Option.bind_some]
      dsimp only
      rw [a4, ← nI_succ]
    by_cases hl : zDgt (b k2) = true
    · right
      refine ⟨hlt, (k2 + 1, wI J' 5 4 (nI (k2 + 1))), ⟨rfl, by omega, (zSkip_go hlt hl).symm.trans hP, fr.tr (zFrT.wr (by omega)), ?_, ?_, ?_⟩, fun fu => ?_⟩
      · dsimp only; rw [wI_g, if_neg (by omega)]; exact a3
      · dsimp only; rw [wI_g, if_pos rfl]
      · dsimp only; rw [wI_g, if_neg (by omega)]; exact a6
      · rw [st, zOne_t hl, if_neg n10]
        dsimp only
        rw [show k2 + 1 - p = (k2 - p) + 1 by omega, zNv, show p + (k2 - p) = k2 by omega]
    · left
      rw [zSkip_no (fun q => hl q.2)] at hP
      refine ⟨_, ⟨J', fr, a3, by rw [← hP]; exact a4, a6, rfl⟩, fun fu => ?_⟩
      rw [st, zOne_f hl, ← hP]
      exact if_pos rfl
  · left
    rw [zSkip_no (fun q => hlt q.1)] at hP
    refine ⟨_, ⟨J', fr, a3, by rw [← hP]; exact a4, a6, rfl⟩, fun fu => ?_⟩
    rw [F_X2_advanceNumber_2, a4, t'.2.1, if_neg (fun q => hlt ((i_lts (by omega) (by omega)).1 q)), ← hP]
end TB
