/-! how loud the reference's one is -/
theorem zTell_b {E : zEv2} {w : zVw} {t p : Nat} {x m : Int32} (hp : p ≠ 2) : ∃ a, a < 100 ∧ zTell E w t p x m = nI a := by
  unfold zTell
  rw [if_neg hp]
  generalize E t p (zFacts w x m) = v
  unfold zBnd
  by_cases h1 : v < 0
  · rw [if_pos h1]
    exact ⟨0, by omega, rfl⟩
  · rw [if_neg h1]
    by_cases h2 : (99 : Int32) < v
    · rw [if_pos h2]
      exact ⟨99, by omega, rfl⟩
    · rw [if_neg h2]
      rw [i_lt] at h1 h2
      have e0 : (0 : Int32).toInt = 0 := rfl
      have e9 : (99 : Int32).toInt = 99 := rfl
      obtain ⟨k, hk, _, hk3⟩ := i_nat (x := v) (by omega)
      exact ⟨k, by omega, hk⟩
theorem zNz_b0 : ∀ a, a < 100 → ∀ b, b < 10 → zBnd (nI a) 0 999 = nI a ∧ zBnd (nI a / 2) 0 999 = nI a / 2 ∧ zBnd (nI a / 2 + nI b) 0 999 = nI a / 2 + nI b ∧ zBnd (2 * nI a + nI b) 0 999 = 2 * nI a + nI b ∧ zBnd (2 * nI a) 0 999 = 2 * nI a ∧ zBnd (2 * nI a + nI b + 5) 0 999 = 2 * nI a + nI b + 5 ∧ zBnd (2 * nI a + 5) 0 999 = 2 * nI a + 5 := by
  decide +kernel
section LU
variable {E : zEv2} {n t s i : Nat} {J : zzJ} {w : zVw} {m : Int32}
theorem r_noise (g : zGoodV w s) (ti : zTieV J w s) (h : i < s) (hE : zTxR E n (J.2 47) (J.2 48)) (ht : w 0 3 = nI t) (htn : t < n) : ∃ J1, F_X7_noiseOf (nI i) J = some (zNoise E w t (nI i), J1) ∧ zLow J J1 := by
  have h8 := g.1
  have hx : zzIx (nI i) 8 := i_ix (by omega) (by omega)
  have hc : (nI i).toNatClampNeg = i := i_cm (by omega)
  have hs := zSeat_nI g h
  have i1 : zIt (w 1) 8 (nI i) 0 = w 1 i := zIt_nI (by omega) (by omega)
  have i2 : zIt (w 2) 8 (nI i) 0 = w 2 i := zIt_nI (by omega) (by omega)
  have q := ti.1 i h
  unfold zNoise F_X7_noiseOf
  rw [if_pos hx, if_pos hx, hc, q.1, q.2.2.2, i1, i2]
  simp only [hs]
  by_cases hw : w 4 i = -1
  · rw [if_pos hw, if_pos hw]
    exact ⟨J, rfl, zLow.rf⟩
  · rw [if_neg hw, if_neg hw]
    have key : (w 1 i = 3 → ¬ zWat w (nI i)) → w 1 i ≠ 5 → ∃ J1, F_X7_noiseOf_37 (nI i) (w 1 i) J = some (zBnd (zNz (w 1 i) (zTell E w t 0 (nI i) (w 0 1)) (w 4 i / 4) (w 2 i) (zOne (zWat w (nI i)))) 0 999, J1) ∧ zLow J J1 := by
      intro h3 h5
      obtain ⟨J1, e1, l1⟩ := r_asks (p := 0) (m := J.2 46 7) g ti h hE ht htn (by omega)
      have e2 : F_X7_asks 0 (nI i) (J.2 46 7) J = some (zTell E w t 0 (nI i) (J.2 46 7), J1) := e1
      refine ⟨J1, ?_, l1⟩
      have q1 := (l1.tie ti).1 i h
      unfold F_X7_noiseOf_37
      rw [e2, Option.bind_some, if_pos hx, if_pos hx, hc]
      dsimp only
      rw [q1.2.2.2, q1.2.1, ti.2.2.1]
      obtain ⟨a, ha, ea⟩ := zTell_b (E := E) (w := w) (t := t) (p := 0) (x := nI i) (m := w 0 1) (by omega)
      obtain ⟨b, hb, eb⟩ := (g.2.2.1 i h).2.1
      have zb := zNz_b0 a ha b hb
      rw [ea, eb]
      unfold F_X7_noiseOf_80 zNz
      simp only [zsp]
      by_cases hr : w 4 i / 4 = 5
      · simp only [if_pos hr]
        by_cases k1 : w 1 i = 1
        · simp only [if_pos k1]
          rw [zb.2.2.2.1]
        · simp only [if_neg k1]
          by_cases k2 : w 1 i = 2
          · have k3 : ¬ w 1 i = 3 := by rw [k2]; decide
            simp only [if_pos k2, if_neg k3]
            rw [zb.2.1]
          · simp only [if_neg k2]
            by_cases k3 : w 1 i = 3
            · simp only [if_pos k3, if_pos (zOne0.2 (h3 k3))]
              rw [zb.2.2.2.2.2.1]
            · simp only [if_neg k3, if_neg h5]
              by_cases k4 : w 1 i = 4
              · simp only [if_pos k4]
                rw [zb.2.2.1]
              · simp only [if_neg k4]
                rw [zb.1]
      · simp only [if_neg hr, Int32.add_zero]
        by_cases k1 : w 1 i = 1
        · simp only [if_pos k1]
          rw [zb.2.2.2.2.1]
        · simp only [if_neg k1]
          by_cases k2 : w 1 i = 2
          · have k3 : ¬ w 1 i = 3 := by rw [k2]; decide
            simp only [if_pos k2, if_neg k3]
            rw [zb.2.1]
          · simp only [if_neg k2]
            by_cases k3 : w 1 i = 3
            · simp only [if_pos k3, if_pos (zOne0.2 (h3 k3))]
              rw [zb.2.2.2.2.2.2]
            · simp only [if_neg k3, if_neg h5]
              by_cases k4 : w 1 i = 4
              · simp only [if_pos k4]
                rw [zb.2.2.1]
              · simp only [if_neg k4]
                rw [zb.1]
    by_cases h5 : w 1 i = 5
    · rw [if_pos h5, h5]
      exact ⟨J, rfl, zLow.rf⟩
    · rw [if_neg h5]
      by_cases h3 : w 1 i = 3
      · rw [if_pos h3, r_watched g ti h, Option.bind_some]
        dsimp only
        by_cases hwt : zWat w (nI i)
        · rw [if_neg (fun z => zOne0.1 z hwt)]
          refine ⟨J, ?_, zLow.rf⟩
          rw [show zOne (zWat w (nI i)) = 1 from if_pos hwt, h3]
          rfl
        · rw [if_pos (zOne0.2 hwt)]
          exact key (fun _ => hwt) h5
      · rw [if_neg h3]
        exact key (fun z => absurd z h3) h5
end LU
