/-! back -/
section BK
variable {L : Nat} {xs : Nat → Int32} {E : zEv2} {s t n z : Nat} {J J1 J2 : zzJ} {w w' : zVw} {x y v q : Int32} {a r i : Nat}
theorem wI_g {J' : zzJ} {p i : Nat} {v : Int32} {j : Nat} : (wI J' p i v).2 p j = if j = i then v else J'.2 p j := by
  rw [wI_get]
  by_cases hj : j = i
  · rw [if_pos ⟨rfl, hj⟩, if_pos hj]
  · rw [if_neg (fun q => hj q.2), if_neg hj]
theorem r_back43 {u : Nat} {J0 : zzJ} (hu : u ≤ 8) (hA : ∀ i j q, i < u → j < u → q < 24 → J0.2 61 i = nI q → J0.2 61 j = nI q → i = j) (hA2 : ∀ i, i < u → zQok (J0.2 61 i)) (hm : J0.2 46 14 = nI u) (h0 : zRe (J0.2 61) u 0 (J0.2 53) (J0.2 54)) : ∃ J2, F_X7_back_43 4096 0 J0 = some (nI u, J2) ∧ J2.1 = J0.1 ∧ (∀ b, b ≠ 51 → b ≠ 52 → b ≠ 53 → b ≠ 54 → b ≠ 46 → J2.2 b = J0.2 b) ∧ (∀ j, j < u → J2.2 51 j = J0.2 59 j ∧ J2.2 52 j = J0.2 60 j) ∧ zRe (J0.2 61) u u (J2.2 53) (J2.2 54) ∧ (∀ k, k ≠ 4 → k ≠ 7 → k ≠ 8 → J2.2 46 k = J0.2 46 k) ∧ J2.2 46 7 = J0.2 46 45 ∧ J2.2 46 8 = J0.2 46 46 ∧ J2.2 46 4 = J0.2 46 47 := by
  refine zLoop (G := fun f (a : Nat × zzJ) => F_X7_back_43 f (nI a.1) a.2) (P := fun k a => a.1 = k ∧ a.2.1 = J0.1 ∧ (∀ b, b ≠ 51 → b ≠ 52 → b ≠ 53 → b ≠ 54 → a.2.2 b = J0.2 b) ∧ (∀ j, j < k → a.2.2 51 j = J0.2 59 j ∧ a.2.2 52 j = J0.2 60 j) ∧ zRe (J0.2 61) u k (a.2.2 53) (a.2.2 54)) (Q := fun r => ∃ J2, r = some (nI u, J2) ∧ J2.1 = J0.1 ∧ (∀ b, b ≠ 51 → b ≠ 52 → b ≠ 53 → b ≠ 54 → b ≠ 46 → J2.2 b = J0.2 b) ∧ (∀ j, j < u → J2.2 51 j = J0.2 59 j ∧ J2.2 52 j = J0.2 60 j) ∧ zRe (J0.2 61) u u (J2.2 53) (J2.2 54) ∧ (∀ k, k ≠ 4 → k ≠ 7 → k ≠ 8 → J2.2 46 k = J0.2 46 k) ∧ J2.2 46 7 = J0.2 46 45 ∧ J2.2 46 8 = J0.2 46 46 ∧ J2.2 46 4 = J0.2 46 47) (s := u) ?_ u 0 (0, J0) (by omega) ⟨rfl, rfl, fun _ _ _ _ _ => rfl, fun j hj => absurd hj (by omega), h0⟩ 4096 (by omega)
  rintro k ⟨k2, J'⟩ hk ⟨rfl, a, b, c, d⟩
  dsimp only at hk a b c d ⊢
  have hm' : J'.2 46 14 = nI u := by rw [b 46 (by omega) (by omega) (by omega) (by omega)]; exact hm
  by_cases h : k2 < u
  · right
    have hx : zzIx (nI k2) 8 := i_ix (by omega) (by omega)
    have hc : (nI k2).toNatClampNeg = k2 := i_cm (by omega)
    have o : ∀ p, p ≠ 51 → p ≠ 52 → (wI (wI J' 51 k2 (J'.2 59 k2)) 52 k2 (J'.2 60 k2)).2 p = J'.2 p := fun p h1 h2 => by rw [wI_ne h2, wI_ne h1]
    obtain ⟨J3, e3, a3, b3, d3⟩ := zRe_step (J := wI (wI J' 51 k2 (J'.2 59 k2)) 52 k2 (J'.2 60 k2)) hA (hA2 k2 h) hu h (by rw [o 53 (by omega) (by omega), o 54 (by omega) (by omega)]; exact d)
    refine ⟨h, (k2 + 1, J3), ⟨rfl, a3.trans a, fun p h1 h2 h3 h4 => by dsimp only; rw [b3 p h3 h4, o p h1 h2]; exact b p h1 h2 h3 h4, fun j hj => ?_, d3⟩, fun f => ?_⟩
    · dsimp only
      rw [b3 51 (by omega) (by omega), b3 52 (by omega) (by omega), wI_ne (show (51 : Nat) ≠ 52 by omega), wI_g, wI_g, wI_ne (show (52 : Nat) ≠ 51 by omega)]
      by_cases hj2 : j = k2
      · rw [if_pos hj2, if_pos hj2, b 59 (by omega) (by omega) (by omega) (by omega), b 60 (by omega) (by omega) (by omega) (by omega), hj2]
        exact ⟨rfl, rfl⟩
      · rw [if_neg hj2, if_neg hj2]
        exact c j (by omega)
    · have e61 : (wI (wI J' 51 k2 (J'.2 59 k2)) 52 k2 (J'.2 60 k2)).2 61 k2 = J0.2 61 k2 := by rw [o 61 (by omega) (by omega), b 61 (by omega) (by omega) (by omega) (by omega)]
      rw [F_X7_back_43, hm', if_pos ((i_lts (by omega) (by omega)).2 h)]
      simp only [if_pos hx, hc]
      show Option.bind (F_X7_seats (nI k2) ((wI (wI J' 51 k2 (J'.2 59 k2)) 52 k2 (J'.2 60 k2)).2 61 k2) (wI (wI J' 51 k2 (J'.2 59 k2)) 52 k2 (J'.2 60 k2))) _ = _
      rw [e61, e3, ← nI_succ]
      rfl
  · left
    obtain rfl : k2 = u := by omega
    refine ⟨_, ⟨wI (wI (wI J' 46 7 (J'.2 46 45)) 46 8 (J'.2 46 46)) 46 4 (J'.2 46 47), rfl, a, fun p h1 h2 h3 h4 h5 => ?_, fun j hj => ?_, ?_, fun k h1 h2 h3 => ?_, ?_, ?_, ?_⟩, fun f => ?_⟩
    · rw [wI_ne h5, wI_ne h5, wI_ne h5]; exact b p h1 h2 h3 h4
    · exact c j hj
    · exact d
    · rw [wI_g, if_neg h1, wI_g, if_neg h3, wI_g, if_neg h2, b 46 (by omega) (by omega) (by omega) (by omega)]
    · simp [wI_get, b 46 (by omega) (by omega) (by omega) (by omega)]
    · simp [wI_get, b 46 (by omega) (by omega) (by omega) (by omega)]
    · simp [wI_get, b 46 (by omega) (by omega) (by omega) (by omega)]
    · have hn : ¬ nI k2 < J'.2 46 14 := by rw [hm']; exact fun e => h ((i_lts (by omega) (by omega)).1 e)
      rw [F_X7_back_43, if_neg hn]
      simp [wI_get, hm']
theorem zRe_c {A B : Nat → Int32} {u k : Nat} {f53 f54 : Nat → Int32} (hk : k ≤ u) (h : ∀ i, i < u → A i = B i) (z : zRe A u k f53 f54) : zRe B u k f53 f54 := by
  obtain ⟨a, b, c, d⟩ := z
  exact ⟨fun j hj => (a j hj).trans (h j (by omega)), b, fun j hj q hq e => c j hj q hq ((h j (by omega)).trans e), fun q hq hn => d q hq (fun j hj e => hn j hj ((h j (by omega)).symm.trans e))⟩
theorem c_back (I : zInv L xs E s t n z J) : zAns L xs F_X6_back F_X7_back J := by
  obtain ⟨g, h8, ht, htn, h4, hC, _⟩ := inv_d I
  have ti := I.2.1.2.1
  obtain ⟨A, B, C, D, K, S⟩ := id I
  rcases K with ⟨k1, k2⟩ | ⟨k1, u, hu, k2, gk, ⟨t', htn', kt⟩, kr, k45, k46, k47⟩
  · refine zAns.no (v := -3) I ?_ ?_
    · unfold F_X6_back
      rw [if_pos k1]
    · unfold F_X7_back
      rw [if_pos k2]
  · obtain ⟨J1, e1, v1, a1, b1⟩ := t_take (J := J) zC7 zC21 (by omega)
    have t1 : zTieV J1 (zW 7 J) s := tieJ (fun b _ _ => b1 b (by omega)) (fun k _ => by rw [b1 46 (by omega)]) ti
    obtain ⟨J3, e3, t3, a3, b3⟩ := r_stand (J := J1) (G := fun f k J => F_X7_back_13 f (nI k) J) (K := fun J => F_X7_back_43 4096 0 (wI J 46 14 (J.2 46 44))) (fun f k J J' hm hk hs => by
      show F_X7_back_13 (f + 1) (nI k) J = F_X7_back_13 f (nI (k + 1)) J'
      rw [F_X7_back_13, hm, if_pos ((i_lts (by omega) (by omega)).2 hk), hs, ← nI_succ]
      rfl) (fun f J hm => by
      show F_X7_back_13 (f + 1) (nI s) J = _
      rw [F_X7_back_13, hm, if_neg (fun e => absurd ((i_lts (by omega) (by omega)).1 e) (by omega))]) g t1
    have c3 : ∀ b, (b < 7 ∨ 12 < b) → b ≠ 53 → b ≠ 54 → J3.2 b = J.2 b := fun b h1 h2 h3 => (b3 b h2 h3).trans (b1 b h1)
    have eu : J3.2 46 44 = nI u := by rw [c3 46 (by omega) (by omega) (by omega)]; exact k2
    have z61 : ∀ i, i < u → J3.2 61 i = J.2 25 i := fun i hi => by rw [c3 61 (by omega) (by omega) (by omega)]; exact (kr i hi).2.2.2
    obtain ⟨rA, rB⟩ := zRe_A gk
    have o : ∀ p, p ≠ 46 → (wI J3 46 14 (nI u)).2 p = J3.2 p := fun p hp => wI_ne hp
    obtain ⟨J2, e2, a2, b2, c2, d2, f2, m7, m8, m4⟩ := r_back43 (J0 := wI J3 46 14 (nI u)) (u := u) (by omega) (fun i j q hi hj hq h1 h2 => rA i j q hi hj hq (by rw [o 61 (by omega), z61 i hi] at h1; exact h1) (by rw [o 61 (by omega), z61 j hj] at h2; exact h2)) (fun i hi => by rw [o 61 (by omega), z61 i hi]; exact rB i hi) (by simp [wI_get]) (by rw [o 53 (by omega), o 54 (by omega)]; exact zRe_0 g t3 _ hu)
    have q : ∀ b, (b < 7 ∨ 12 < b) → b ≠ 46 → (b < 51 ∨ 54 < b) → J2.2 b = J.2 b := fun b h1 h2 h3 => (b2 b (by omega) (by omega) (by omega) (by omega) h2).trans ((o b h2).trans (c3 b h1 (by omega) (by omega)))
    have q46 : ∀ k, k ≠ 4 → k ≠ 7 → k ≠ 8 → k ≠ 14 → J2.2 46 k = J.2 46 k := fun k h1 h2 h3 h4 => by rw [f2 k h1 h2 h3, wI_g, if_neg h4, c3 46 (by omega) (by omega) (by omega)]
    have v2 : zVe (zW 21 J) (zW 7 J2) := veW (J := J1) (fun b h1 h2 => by rw [b2 b (by omega) (by omega) (by omega) (by omega) (by omega), o b (by omega), b3 b (by omega) (by omega)]) v1
    have re := zRe_end gk (zRe_c (B := zW 21 J 4) (Nat.le_refl u) (fun i hi => by rw [o 61 (by omega)]; exact z61 i hi) d2)
    have t2 : zTieV J2 (zW 21 J) u := by
      refine ⟨fun i hi => ⟨?_, ?_, ?_, re.1 i hi⟩, re.2, ?_, ?_, ?_, ?_⟩
      · rw [q 50 (by omega) (by omega) (by omega), (ti.1 i (by omega)).1]; exact (kr i hi).1.symm
      · rw [(c2 i hi).1, o 59 (by omega), c3 59 (by omega) (by omega) (by omega)]; exact (kr i hi).2.1
      · rw [(c2 i hi).2, o 60 (by omega), c3 60 (by omega) (by omega) (by omega)]; exact (kr i hi).2.2.1
      · rw [m7, wI_g, if_neg (by omega), c3 46 (by omega) (by omega) (by omega)]; exact k45
      · rw [m8, wI_g, if_neg (by omega), c3 46 (by omega) (by omega) (by omega)]; exact k46
      · rw [m4, wI_g, if_neg (by omega), c3 46 (by omega) (by omega) (by omega)]; exact k47
      · rw [f2 14 (by omega) (by omega) (by omega), wI_g, if_pos rfl]; exact gk.2.1.symm
    refine ⟨nI u, J1, J2, ?_, ?_, E, u, t', n, z, ⟨⟨by rw [a2]; exact (congrArg (fun f => f 2000 0) (a3.trans a1)).trans A.1, by rw [q 2000 (by omega) (by omega) (by omega)]; exact A.2⟩, ⟨zVe_good v2 gk, zVe_tie v2 gk.1 t2, (v2.1 3 (by omega) (by omega)).trans kt, htn'⟩, iT_c (q _ (by omega) (by omega) (by omega)) (q _ (by omega) (by omega) (by omega)) (q _ (by omega) (by omega) (by omega)) (q46 _ (by omega) (by omega) (by omega) (by omega)) (q _ (by omega) (by omega) (by omega)) (q _ (by omega) (by omega) (by omega)) C, iP_c (q _ (by omega) (by omega) (by omega)) (q _ (by omega) (by omega) (by omega)) (q46 _ (by omega) (by omega) (by omega) (by omega)) (q _ (by omega) (by omega) (by omega)) D, Or.inr ⟨by rw [q 0 (by omega) (by omega) (by omega)]; exact k1, u, Nat.le_refl u, by rw [q46 44 (by omega) (by omega) (by omega) (by omega)]; exact k2, goodW (fun b _ _ => q b (by omega) (by omega) (by omega)) gk, ⟨t', htn', by rw [q 21 (by omega) (by omega) (by omega)]; exact kt⟩, fun i hi => ⟨?_, ?_, ?_, ?_⟩, ?_, ?_, ?_⟩, fun i hi => iS_c hi (fun b _ => q b (by omega) (by omega) (by omega)) (S i hi)⟩, zIA_of A a1 (b1 2000 (by omega))⟩
    · unfold F_X6_back
      rw [if_neg (by rw [k1]; exact n10), e1, Option.bind_some]
      rw [show J1.2 7 4 = nI u from (v1.1 4 (by omega) (by omega)).trans gk.2.1]
    · unfold F_X7_back
      rw [if_neg (by rw [b1 46 (by omega), k2]; exact i_nm1 (by omega))]
      refine Eq.trans e3 ?_
      show F_X7_back_43 4096 0 (wI J3 46 14 (J3.2 46 44)) = _
      rw [eu]
      exact e2
    · rw [q 22 (by omega) (by omega) (by omega)]; exact (v2.2.1 1 (by omega) (by omega) i (by omega)).symm
    · rw [q 59 (by omega) (by omega) (by omega), q 23 (by omega) (by omega) (by omega)]; exact (kr i hi).2.1
    · rw [q 60 (by omega) (by omega) (by omega), q 24 (by omega) (by omega) (by omega)]; exact (kr i hi).2.2.1
    · rw [q 61 (by omega) (by omega) (by omega), q 25 (by omega) (by omega) (by omega)]; exact (kr i hi).2.2.2
    · rw [q46 45 (by omega) (by omega) (by omega) (by omega), q 21 (by omega) (by omega) (by omega)]; exact k45
    · rw [q46 46 (by omega) (by omega) (by omega) (by omega), q 21 (by omega) (by omega) (by omega)]; exact k46
    · rw [q46 47 (by omega) (by omega) (by omega) (by omega), q 21 (by omega) (by omega) (by omega)]; exact k47
end BK
