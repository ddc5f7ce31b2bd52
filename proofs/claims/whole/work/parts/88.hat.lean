/-! hat: what a sheet must tell -/
abbrev zHu (f : Nat → Int32) (b : Nat) : Prop := ∀ i j, j < i → i < b → f i ≠ f j
abbrev zHok (w : zVw) (s : Nat) (it : Nat → Int32) (b : Nat) : Prop := ((∀ i, i < b → 0 ≤ (it i).toInt ∧ (it i).toInt < s) ∧ zHu it b) ∧ (zHu (fun i => it (b + i)) b ∧ ∀ i, i < b → (0 ≤ (it (b + i)).toInt ∧ (it (b + i)).toInt < 24) ∧ (zSit w (it (b + i)) = -1 ∨ ∃ j, j < b ∧ it j = zSit w (it (b + i))))
abbrev zTf (P : Prop) (r : Int32) : Prop := (r = 1 ∧ P) ∨ (r = 0 ∧ ¬ P)
section HA
variable {L : Nat} {xs : Nat → Int32} {E : zEv2} {s t n z : Nat} {J J1 J2 : zzJ} {w w' : zVw} {x y v off : Int32} {a r i h c k p b m : Nat} {it f : Nat → Int32}
theorem t_unlike (h8 : zKd c = 8) (h6 : zSz c = 6) (hb : b ≤ 6) (h3 : J.2 33 3 = nI b) (hf : ∀ i, i < b → J.2 c i = f i) : ∃ r, F_X1_isUnlike c J = some (r, J) ∧ zTf (zHu f b) r := by
  have e : ∀ i, i < b → F_X6_itemAt c (nI i) J = some (f i, J) := fun i hi => by rw [b_it (z := 6) h8 h6 (by omega) (by omega), hf i hi]
  have inn : ∀ i, i < b → ((∃ j, j < i ∧ f i = f j) ∧ (fun kl => F_X1_isUnlike_12 kl 4096 c (nI i) 0 J) = fun _ => some (0, J)) ∨ ((∀ j, j < i → f i ≠ f j) ∧ (fun kl => F_X1_isUnlike_12 kl 4096 c (nI i) 0 J) = fun kl => kl c (nI (i + 1)) J) := by
    intro i hi
    refine zLoop (G := fun fu (j : Nat) => fun kl => F_X1_isUnlike_12 kl fu c (nI i) (nI j) J) (P := fun k j => j = k ∧ ∀ q, q < k → f i ≠ f q) (Q := fun r => ((∃ j, j < i ∧ f i = f j) ∧ r = fun _ => some (0, J)) ∨ ((∀ j, j < i → f i ≠ f j) ∧ r = fun kl => kl c (nI (i + 1)) J)) (s := i) ?_ i 0 0 (by omega) ⟨rfl, fun q hq => absurd hq (by omega)⟩ 4096 (by omega)
    rintro k j hk ⟨rfl, hP⟩
    by_cases hlt : j < i
    · by_cases he : f i = f j
      · left
        refine ⟨_, Or.inl ⟨⟨j, hlt, he⟩, rfl⟩, fun fu => ?_⟩
        funext kl
        rw [F_X1_isUnlike_12, if_pos ((i_lts (by omega) (by omega)).2 hlt), e i hi, Option.bind_some]
        dsimp only
        rw [e j (by omega), Option.bind_some]
        dsimp only
        rw [if_pos he]
      · right
        refine ⟨hlt, j + 1, ⟨rfl, fun q hq => ?_⟩, fun fu => ?_⟩
        · by_cases hqj : q = j
          · rw [hqj]; exact he
          · exact hP q (by omega)
        · funext kl
          rw [F_X1_isUnlike_12, if_pos ((i_lts (by omega) (by omega)).2 hlt), e i hi, Option.bind_some]
          dsimp only
          rw [e j (by omega), Option.bind_some]
          dsimp only
          rw [if_neg he, ← nI_succ]
    · left
      obtain rfl : j = i := by omega
      refine ⟨_, Or.inr ⟨hP, rfl⟩, fun fu => ?_⟩
      funext kl
      rw [F_X1_isUnlike_12, if_neg (fun q => hlt ((i_lts (by omega) (by omega)).1 q)), ← nI_succ]
  refine zLoop (G := fun fu (j : Nat) => F_X1_isUnlike_2 fu c (nI j) J) (P := fun k j => j = k ∧ ∀ i j, j < i → i < k → f i ≠ f j) (Q := fun q => ∃ r, q = some (r, J) ∧ zTf (zHu f b) r) (s := b) ?_ b 0 0 (by omega) ⟨rfl, fun i j _ hi => absurd hi (by omega)⟩ 4096 (by omega)
  rintro k j hk ⟨rfl, hP⟩
  by_cases hlt : j < b
  · rcases inn j hlt with ⟨⟨q, hq, hfq⟩, e1⟩ | ⟨hn, e1⟩
    · left
      refine ⟨_, ⟨0, rfl, Or.inr ⟨rfl, fun hu => hu j q hq hlt hfq⟩⟩, fun fu => ?_⟩
      rw [F_X1_isUnlike_2, h3, if_pos ((i_lts (by omega) (by omega)).2 hlt)]
      exact congrFun e1 _
    · right
      refine ⟨hlt, j + 1, ⟨rfl, fun i q hq hi => ?_⟩, fun fu => ?_⟩
      · by_cases hij : i = j
        · rw [hij]; exact hn q (by omega)
        · exact hP i q hq (by omega)
      · rw [F_X1_isUnlike_2, h3, if_pos ((i_lts (by omega) (by omega)).2 hlt)]
        exact congrFun e1 _
  · left
    obtain rfl : j = b := by omega
    refine ⟨_, ⟨1, rfl, Or.inl ⟨rfl, hP⟩⟩, fun fu => ?_⟩
    rw [F_X1_isUnlike_2, h3, if_neg (fun q => hlt ((i_lts (by omega) (by omega)).1 q))]
theorem t_told (hb : b ≤ 6) (h3 : J.2 33 3 = nI b) (hf : ∀ i, i < b → J.2 34 i = f i) (x : Int32) : ∃ r, F_X1_isTold x J = some (r, J) ∧ zTf (∃ j, j < b ∧ f j = x) r := by
  refine zLoop (G := fun fu (j : Nat) => F_X1_isTold_2 fu x (nI j) J) (P := fun k j => j = k ∧ ∀ q, q < k → f q ≠ x) (Q := fun q => ∃ r, q = some (r, J) ∧ zTf (∃ j, j < b ∧ f j = x) r) (s := b) ?_ b 0 0 (by omega) ⟨rfl, fun q hq => absurd hq (by omega)⟩ 4096 (by omega)
  rintro k j hk ⟨rfl, hP⟩
  by_cases hlt : j < b
  · have e : F_X6_itemAt 34 (nI j) J = some (f j, J) := by rw [b_it (z := 6) rfl rfl (by omega) (by omega), hf j hlt]
    by_cases hx : f j = x
    · left
      refine ⟨_, ⟨1, rfl, Or.inl ⟨rfl, j, hlt, hx⟩⟩, fun fu => ?_⟩
      rw [F_X1_isTold_2, h3, if_pos ((i_lts (by omega) (by omega)).2 hlt), e, Option.bind_some]
      dsimp only
      rw [if_pos hx]
    · right
      refine ⟨hlt, j + 1, ⟨rfl, fun q hq => ?_⟩, fun fu => ?_⟩
      · by_cases hqj : q = j
        · rw [hqj]; exact hx
        · exact hP q (by omega)
      · rw [F_X1_isTold_2, h3, if_pos ((i_lts (by omega) (by omega)).2 hlt), e, Option.bind_some]
        dsimp only
        rw [if_neg hx, ← nI_succ]
  · left
    obtain rfl : j = b := by omega
    refine ⟨_, ⟨0, rfl, Or.inr ⟨rfl, fun ⟨q, hq, hx⟩ => hP q hq hx⟩⟩, fun fu => ?_⟩
    rw [F_X1_isTold_2, h3, if_neg (fun q => hlt ((i_lts (by omega) (by omega)).1 q))]
theorem t_there (g : zGoodV w s) (v7 : zVe w (zW 7 J)) (hb : b ≤ 6) (h3 : J.2 33 3 = nI b) (h34 : ∀ i, i < b → J.2 34 i = it i) (h35 : ∀ i, i < b → J.2 35 i = it (b + i)) : ∃ r, F_X1_isAllThere 7 J = some (r, J) ∧ zTf ((∀ i, i < b → 0 ≤ (it i).toInt ∧ (it i).toInt < s) ∧ ∀ i, i < b → (0 ≤ (it (b + i)).toInt ∧ (it (b + i)).toInt < 24) ∧ (zSit w (it (b + i)) = -1 ∨ ∃ j, j < b ∧ it j = zSit w (it (b + i)))) r := by
  have e0 : (0 : Int32).toInt = 0 := rfl
  have e24 : (24 : Int32).toInt = 24 := rfl
  have g7 := zVe_good v7 g
  refine zLoop (G := fun fu (j : Nat) => F_X1_isAllThere_2 fu 7 (nI j) J) (P := fun k j => j = k ∧ ∀ i, i < k → (0 ≤ (it i).toInt ∧ (it i).toInt < s) ∧ (0 ≤ (it (b + i)).toInt ∧ (it (b + i)).toInt < 24) ∧ (zSit w (it (b + i)) = -1 ∨ ∃ j, j < b ∧ it j = zSit w (it (b + i)))) (Q := fun q => ∃ r, q = some (r, J) ∧ zTf ((∀ i, i < b → 0 ≤ (it i).toInt ∧ (it i).toInt < s) ∧ ∀ i, i < b → (0 ≤ (it (b + i)).toInt ∧ (it (b + i)).toInt < 24) ∧ (zSit w (it (b + i)) = -1 ∨ ∃ j, j < b ∧ it j = zSit w (it (b + i)))) r) (s := b) ?_ b 0 0 (by omega) ⟨rfl, fun q hq => absurd hq (by omega)⟩ 4096 (by omega)
  rintro k j hk ⟨rfl, hP⟩
  by_cases hlt : j < b
  · have ea : F_X6_itemAt 34 (nI j) J = some (it j, J) := by rw [b_it (z := 6) rfl rfl (by omega) (by omega), h34 j hlt]
    have eb : F_X6_itemAt 35 (nI j) J = some (it (b + j), J) := by rw [b_it (z := 6) rfl rfl (by omega) (by omega), h35 j hlt]
    have eh : F_X0_has 7 (it j) J = some (zOne (0 ≤ (it j).toInt ∧ (it j).toInt < s), J) := by
      rw [cw_has zC7]
      congr 2
      unfold zOne
      have := w_has (x := it j) g7
      by_cases h : 0 ≤ (it j).toInt ∧ (it j).toInt < s
      · rw [if_pos h, if_pos (this.2 h)]
      · rw [if_neg h, if_neg (fun q => h (this.1 q))]
    have st : ∀ fu, F_X1_isAllThere_2 (fu + 1) 7 (nI j) J = (if zOne (0 ≤ (it j).toInt ∧ (it j).toInt < s) = (0 : Int32) then some ((0 : Int32), J) else (if it (b + j) < (0 : Int32) then some ((0 : Int32), J) else (if it (b + j) < (24 : Int32) then (if zSit w (it (b + j)) = (-1 : Int32) then F_X1_isAllThere_2 fu 7 (nI (j + 1)) J else (Option.bind (F_X1_isTold (zSit w (it (b + j))) J) fun q11 => (if q11.1 = (0 : Int32) then some ((0 : Int32), q11.2) else F_X1_isAllThere_2 fu 7 (nI (j + 1)) q11.2))) else some ((0 : Int32), J)))) := by
      intro fu
      rw [F_X1_isAllThere_2, h3, if_pos ((i_lts (by omega) (by omega)).2 hlt), eb, Option.bind_some]
      dsimp only
      rw [ea, Option.bind_some, if_pos (co_kd zC7)]
      dsimp only
      rw [eh, Option.bind_some]
      dsimp only
      rw [cw_sitterAt zC7, zVe_sit v7, Option.bind_some, ← nI_succ]
    by_cases h1 : 0 ≤ (it j).toInt ∧ (it j).toInt < s
    · by_cases h2 : 0 ≤ (it (b + j)).toInt ∧ (it (b + j)).toInt < 24
      · by_cases hs : zSit w (it (b + j)) = -1
        · right
          refine ⟨hlt, j + 1, ⟨rfl, fun i hi => ?_⟩, fun fu => ?_⟩
          · by_cases hij : i = j
            · rw [hij]; exact ⟨h1, h2, Or.inl hs⟩
            · exact hP i (by omega)
          · rw [st, zOne_t h1, if_neg n10, if_neg (by rw [i_lt]; omega), if_pos (by rw [i_lt]; omega), if_pos hs]
        · obtain ⟨r, er, hr⟩ := t_told hb h3 h34 (zSit w (it (b + j)))
          rcases hr with ⟨rfl, hr⟩ | ⟨rfl, hr⟩
          · right
            refine ⟨hlt, j + 1, ⟨rfl, fun i hi => ?_⟩, fun fu => ?_⟩
            · by_cases hij : i = j
              · rw [hij]; exact ⟨h1, h2, Or.inr hr⟩
              · exact hP i (by omega)
            · rw [st, zOne_t h1, if_neg n10, if_neg (by rw [i_lt]; omega), if_pos (by rw [i_lt]; omega), if_neg hs, er, Option.bind_some]
              exact if_neg n10
          · left
            refine ⟨_, ⟨0, rfl, Or.inr ⟨rfl, fun q => (q.2 j hlt).2.elim hs hr⟩⟩, fun fu => ?_⟩
            rw [st, zOne_t h1, if_neg n10, if_neg (by rw [i_lt]; omega), if_pos (by rw [i_lt]; omega), if_neg hs, er, Option.bind_some]
            exact if_pos rfl
      · left
        refine ⟨_, ⟨0, rfl, Or.inr ⟨rfl, fun q => h2 (q.2 j hlt).1⟩⟩, fun fu => ?_⟩
        rw [st, zOne_t h1, if_neg n10]
        by_cases h3 : (it (b + j)).toInt < 0
        · rw [if_pos (by rw [i_lt]; omega)]
        · rw [if_neg (by rw [i_lt]; omega), if_neg (by rw [i_lt]; omega)]
    · left
      refine ⟨_, ⟨0, rfl, Or.inr ⟨rfl, fun q => h1 (q.1 j hlt)⟩⟩, fun fu => ?_⟩
      rw [st, zOne_f h1, if_pos rfl]
  · left
    obtain rfl : j = b := by omega
    refine ⟨_, ⟨1, rfl, Or.inl ⟨rfl, fun i hi => (hP i hi).1, fun i hi => (hP i hi).2⟩⟩, fun fu => ?_⟩
    rw [F_X1_isAllThere_2, h3, if_neg (fun q => hlt ((i_lts (by omega) (by omega)).1 q))]
theorem t_takes49 (hh : h < 4) (g : zGoodV w s) (hb : b ≤ 6) {J0 : zzJ} (v7 : zVe w (zW 7 J0)) (h3 : J0.2 33 3 = nI b) (hit : ∀ i, i < 2 * b → J0.2 (39 + 2 * h) i = it i) : ∃ r J1, F_X1_takes_49 4096 (38 + 2 * h) 7 0 J0 = some (r, J1) ∧ zTf (zHok w s it b) r ∧ J1.1 = J0.1 ∧ (∀ c, c ≠ 34 → c ≠ 35 → J1.2 c = J0.2 c) ∧ (∀ i, i < b → J1.2 34 i = it i) ∧ ∀ i, i < b → J1.2 35 i = it (b + i) := by
  refine zLoop (G := fun fu (q : Nat × zzJ) => F_X1_takes_49 fu (38 + 2 * h) 7 (nI q.1) q.2) (P := fun k q => q.1 = k ∧ q.2.1 = J0.1 ∧ (∀ c, c ≠ 34 → c ≠ 35 → q.2.2 c = J0.2 c) ∧ ∀ i, i < k → q.2.2 34 i = it i ∧ q.2.2 35 i = it (b + i)) (Q := fun q => ∃ r J1, q = some (r, J1) ∧ zTf (zHok w s it b) r ∧ J1.1 = J0.1 ∧ (∀ c, c ≠ 34 → c ≠ 35 → J1.2 c = J0.2 c) ∧ (∀ i, i < b → J1.2 34 i = it i) ∧ ∀ i, i < b → J1.2 35 i = it (b + i)) (s := b) ?_ b 0 (0, J0) (by omega) ⟨rfl, rfl, fun _ _ _ => rfl, fun q hq => absurd hq (by omega)⟩ 4096 (by omega)
  rintro k ⟨j, J'⟩ hk ⟨rfl, a1, b1, c1⟩
  dsimp only at hk a1 b1 c1 ⊢
  have h3' : J'.2 33 3 = nI b := by rw [b1 33 (by omega) (by omega)]; exact h3
  by_cases hlt : j < b
  · right
    have ei : ∀ (J'' : zzJ) q, (J''.2 (39 + 2 * h) = J0.2 (39 + 2 * h)) → q < 2 * b → F_X4_item (38 + 2 * h) (nI q) J'' = some (it q, J'') := fun J'' q he hq => by
      rw [b_item hh, zIt_nI (by omega) (by omega), he, hit q hq]
    refine ⟨hlt, (j + 1, wI (wI J' 34 j (it j)) 35 j (it (b + j))), ⟨rfl, a1, fun c h1 h2 => by dsimp only; rw [wI_ne h2, wI_ne h1]; exact b1 c h1 h2, fun i hi => ?_⟩, fun fu => ?_⟩
    · dsimp only
      rw [wI_ne (show (34 : Nat) ≠ 35 by omega), wI_g, wI_g, wI_ne (show (35 : Nat) ≠ 34 by omega)]
      by_cases hij : i = j
      · rw [if_pos hij, if_pos hij, hij]; exact ⟨rfl, rfl⟩
      · rw [if_neg hij, if_neg hij]; exact c1 i (by omega)
    · have q33 : (wI J' 34 j (it j)).2 33 3 = nI b := h3'
      rw [F_X1_takes_49, h3', if_pos ((i_lts (by omega) (by omega)).2 hlt), if_pos (sh_k hh).1, ei J' j (b1 _ (by omega) (by omega)) (by omega), Option.bind_some]
      dsimp only
      rw [b_pt (z := 6) rfl rfl (by omega) (by omega), Option.bind_some, q33, nI_add, ei _ (b + j) (by rw [wI_ne (by omega)]; exact b1 _ (by omega) (by omega)) (by omega), Option.bind_some]
      dsimp only
      rw [b_pt (z := 6) rfl rfl (by omega) (by omega), Option.bind_some, ← nI_succ]
  · left
    obtain rfl : j = b := by omega
    have h34 : ∀ i, i < j → J'.2 34 i = it i := fun i hi => (c1 i hi).1
    have h35 : ∀ i, i < j → J'.2 35 i = it (j + i) := fun i hi => (c1 i hi).2
    obtain ⟨r1, e1, q1⟩ := t_unlike (c := 34) (f := it) rfl rfl hb h3' h34
    obtain ⟨r2, e2, q2⟩ := t_unlike (c := 35) (f := fun i => it (j + i)) rfl rfl hb h3' h35
    obtain ⟨r3, e3, q3⟩ := t_there g (veW (fun b _ _ => b1 b (by omega) (by omega)) v7) hb h3' h34 h35
    have done : ∀ r : Int32, zTf (zHok w s it j) r → (∀ fu, F_X1_takes_49 (fu + 1) (38 + 2 * h) 7 (nI j) J' = some (r, J')) → ∃ b', (∃ r J1, b' = some (r, J1) ∧ zTf (zHok w s it j) r ∧ J1.1 = J0.1 ∧ (∀ c, c ≠ 34 → c ≠ 35 → J1.2 c = J0.2 c) ∧ (∀ i, i < j → J1.2 34 i = it i) ∧ ∀ i, i < j → J1.2 35 i = it (j + i)) ∧ ∀ f, F_X1_takes_49 (f + 1) (38 + 2 * h) 7 (nI j) J' = b' := fun r hr hf => ⟨_, ⟨r, J', rfl, hr, a1, b1, h34, h35⟩, hf⟩
    have st : ∀ fu, F_X1_takes_49 (fu + 1) (38 + 2 * h) 7 (nI j) J' = (if r1 = (0 : Int32) then some ((0 : Int32), J') else (if r2 = (0 : Int32) then some ((0 : Int32), J') else (if r3 = (0 : Int32) then some ((0 : Int32), J') else some ((1 : Int32), J')))) := by
      intro fu
      rw [F_X1_takes_49, h3', if_neg (fun q => hlt ((i_lts (by omega) (by omega)).1 q)), e1, Option.bind_some]
      dsimp only
      rw [e2, Option.bind_some]
      dsimp only
      rw [e3, Option.bind_some]
    rcases q1 with ⟨rfl, q1⟩ | ⟨rfl, q1⟩
    · rcases q2 with ⟨rfl, q2⟩ | ⟨rfl, q2⟩
      · rcases q3 with ⟨rfl, q3⟩ | ⟨rfl, q3⟩
        · exact done 1 (Or.inl ⟨rfl, ⟨q3.1, q1⟩, q2, q3.2⟩) (fun fu => by rw [st, if_neg n10, if_neg n10, if_neg n10])
        · exact done 0 (Or.inr ⟨rfl, fun q => q3 ⟨q.1.1, q.2.2⟩⟩) (fun fu => by rw [st, if_neg n10, if_neg n10, if_pos rfl])
      · exact done 0 (Or.inr ⟨rfl, fun q => q2 q.2.1⟩) (fun fu => by rw [st, if_neg n10, if_pos rfl])
    · exact done 0 (Or.inr ⟨rfl, fun q => q1 q.1.2⟩) (fun fu => by rw [st, if_pos rfl])
end HA
