/-! text: the class goes one token on -/
abbrev zGo (J J1 : zzJ) (b : Nat → Nat) (m p : Nat) : Prop := zFrT J J1 ∧ J1.2 5 3 = nI p ∧ J1.2 5 5 = zCd b m p ∧ (zCd b m p ≠ -2 → J1.2 5 4 = nI (zEn b m p) ∧ J1.2 5 6 = -1) ∧ (zCd b m p = -2 → J1.2 5 6 = nI p)
section TC2
variable {J J1 J2 : zzJ} {b : Nat → Nat} {m p q e i j k x : Nat}
theorem zNv_4 : ∀ c, c ≤ 4 → (∀ j, j < c → zDgt (b (p + j)) = true) → ∃ v, v < 10 ^ c ∧ zNv b p c = nI v := by
  intro c
  induction c with
  | zero => intro _ _; exact ⟨0, by omega, rfl⟩
  | succ c ih =>
    intro hc hd
    obtain ⟨v, hv, e⟩ := ih (by omega) (fun j hj => hd j (by omega))
    have hx := hd c (by omega)
    unfold zDgt at hx
    rw [Bool.and_eq_true, decide_eq_true_eq, decide_eq_true_eq] at hx
    have hp : (10 : Nat) ^ c ≤ 10 ^ 3 := Nat.pow_le_pow_right (by omega) (by omega)
    refine ⟨v * 10 + b (p + c) - 48, by rw [Nat.pow_succ]; omega, ?_⟩
    rw [zNv, e, show (10 : Int32) = nI 10 from rfl, show (48 : Int32) = nI 48 from rfl, pk_mul, nI_add]
    exact pk_sub (by omega)
theorem zSkip_all {P : Nat → Bool} : ∀ (f p j : Nat), p ≤ j → j < zSkip P b m f p → P (b j) = true := by
  intro f
  induction f with
  | zero => intro p j h1 h2; rw [zSkip] at h2; omega
  | succ f ih =>
    intro p j h1 h2
    rw [zSkip] at h2
    split at h2
    · rename_i h
      by_cases hj : j = p
      · rw [hj]; exact h.2
      · exact ih (p + 1) j (by omega) h2
    · omega
theorem b_38 (t : zTp J b m) (h4 : J.2 5 4 = nI p) (hp : p ≤ m) (h6 : J.2 5 6 = -1) : ∃ J1, F_X2_advance_38 J = some J1 ∧ zGo J J1 b m p := by
  have hm := t.1
  have hbp := t.2.2.2 p
  have f0 : zFrT J (wI J 5 3 (nI p)) := zFrT.wr (by omega)
  have t0 := t.fr f0
  have g4 : (wI J 5 3 (nI p)).2 5 4 = nI p := by rw [wI_g, if_neg (by omega)]; exact h4
  have g3 : (wI J 5 3 (nI p)).2 5 3 = nI p := by rw [wI_g, if_pos rfl]
  have g6 : (wI J 5 3 (nI p)).2 5 6 = -1 := by rw [wI_g, if_neg (by omega)]; exact h6
  generalize hJ0 : wI J 5 3 (nI p) = J0 at f0 t0 g4 g3 g6
  by_cases hlt : p < m
  · have st : F_X2_advance_38 J = (if zOne (zLtr (b p) = true) = (0 : Int32) then (if zOne (zDgt (b p) = true) = (0 : Int32) then F_X2_advanceSign (nI (b p)) J0 else F_X2_advanceNumber J0) else F_X2_advanceWord J0) := by
      unfold F_X2_advance_38
      rw [h4, hJ0, g4, b_byte t0 (by omega), if_pos hlt, Option.bind_some]
      dsimp only
      rw [if_neg (i_nm1 (by omega)), b_letter hbp, Option.bind_some]
      dsimp only
      rw [b_digit hbp, Option.bind_some, opt_id, opt_id, opt_id]
    by_cases hl : zLtr (b p) = true
    · rw [st, zOne_t hl, if_neg n10]
      obtain ⟨J1, f1, a3, a4, a6, e1⟩ := t_word t0 g3 g4 hlt
      have hen : zEn b m p = zSkip zLtr b m (m - p) p := by unfold zEn; rw [if_pos hlt, if_pos hl]
      have hcd : zCd b m p = zWi b p (zEn b m p) 12 0 := by unfold zCd; rw [if_pos hlt, if_pos hl]
      have hsk := zSkip_le (P := zLtr) (b := b) (m := m) (m - p) p
      rw [e1, b_word42 (t0.fr f1) a3 a4 hsk.1 (hsk.2 hp) 12 0 4096 (by omega) (by omega), ← hen, ← hcd]
      rw [← hen] at a4
      by_cases hc : zCd b m p = -2
      · obtain ⟨J2, e2, f2, b5, b6⟩ := b_fail (p := p) (a6.trans g6) a3
        exact ⟨J2, by rw [if_pos hc, e2], (f0.tr f1).tr f2, by
          have : J2.2 5 3 = J1.2 5 3 := by
            have := e2
            unfold F_X2_fail at this
            rw [if_pos (a6.trans g6)] at this
            rw [← Option.some.inj this, wI_g, if_neg (by omega), wI_g, if_neg (by omega)]
          rw [this]; exact a3, by rw [b5, hc], fun h => absurd hc h, fun _ => b6⟩
      · refine ⟨_, by rw [if_neg hc], (f0.tr f1).tr (zFrT.wr (by omega)), ?_, ?_, fun _ => ⟨?_, ?_⟩, fun h => absurd h hc⟩
        · rw [wI_g, if_neg (by omega)]; exact a3
        · rw [wI_g, if_pos rfl]
        · rw [wI_g, if_neg (by omega)]; exact a4
        · rw [wI_g, if_neg (by omega)]; exact a6.trans g6
    · by_cases hd : zDgt (b p) = true
      · rw [st, zOne_f hl, if_pos rfl, zOne_t hd, if_neg n10]
        obtain ⟨J1, f1, a3, a4, a6, e1⟩ := t_number t0 g3 g4 hlt
        have hen : zEn b m p = zSkip zDgt b m (m - p) p := by unfold zEn; rw [if_pos hlt, if_neg hl, if_pos hd]
        have hcd : zCd b m p = if 4 < zEn b m p - p then -2 else zNv b p (zEn b m p - p) := by unfold zCd; rw [if_pos hlt, if_neg hl, if_pos hd]
        have hsk := zSkip_le (P := zDgt) (b := b) (m := m) (m - p) p
        have hle := hsk.2 hp
        rw [e1, ← hen]
        rw [← hen] at a4 hle hsk
        have y3 : (wI J1 5 5 (zNv b p (zEn b m p - p))).2 5 3 = nI p := by rw [wI_g, if_neg (by omega)]; exact a3
        have y4 : (wI J1 5 5 (zNv b p (zEn b m p - p))).2 5 4 = nI (zEn b m p) := by rw [wI_g, if_neg (by omega)]; exact a4
        have e57 : F_X2_advanceNumber_57 (zNv b p (zEn b m p - p)) J1 = if 4 < zEn b m p - p then F_X2_fail (wI J1 5 5 (zNv b p (zEn b m p - p))) else some (wI J1 5 5 (zNv b p (zEn b m p - p))) := by
          unfold F_X2_advanceNumber_57
          rw [y3, y4, show nI (zEn b m p) - nI p = nI (zEn b m p - p) from pk_sub (by omega), opt_id]
          by_cases h : 4 < zEn b m p - p
          · rw [if_pos h, if_pos (show (4 : Int32) < nI (zEn b m p - p) from (i_lts (i := 4) (by omega) (by omega)).2 h)]
          · rw [if_neg h, if_neg (show ¬ (4 : Int32) < nI (zEn b m p - p) from fun q => h ((i_lts (i := 4) (by omega) (by omega)).1 q))]
        rw [e57]
        have y5 : (wI J1 5 5 (zNv b p (zEn b m p - p))).2 5 5 = zNv b p (zEn b m p - p) := by rw [wI_g, if_pos rfl]
        have y6 : (wI J1 5 5 (zNv b p (zEn b m p - p))).2 5 6 = -1 := by rw [wI_g, if_neg (by omega)]; exact a6.trans g6
        have fy : zFrT J1 (wI J1 5 5 (zNv b p (zEn b m p - p))) := zFrT.wr (by omega)
        generalize wI J1 5 5 (zNv b p (zEn b m p - p)) = Jy at y3 y4 y5 y6 fy
        by_cases h : 4 < zEn b m p - p
        · rw [if_pos h] at hcd
          rw [if_pos h]
          obtain ⟨J2, e2, f2, b5, b6⟩ := b_fail (p := p) y6 y3
          have b3 : J2.2 5 3 = Jy.2 5 3 := by
            have := e2
            unfold F_X2_fail at this
            rw [if_pos y6] at this
            rw [← Option.some.inj this, wI_g, if_neg (by omega), wI_g, if_neg (by omega)]
          exact ⟨J2, e2, ((f0.tr f1).tr fy).tr f2, by rw [b3]; exact y3, by rw [b5, hcd], fun h => absurd hcd h, fun _ => b6⟩
        · rw [if_neg h] at hcd
          rw [if_neg h]
          obtain ⟨v, hv, ev⟩ := zNv_4 (b := b) (p := p) (zEn b m p - p) (by omega) (fun j hj => zSkip_all (P := zDgt) (m - p) p (p + j) (by omega) (by rw [← hen]; omega))
          have hv4 : (10 : Nat) ^ (zEn b m p - p) ≤ 10 ^ 4 := Nat.pow_le_pow_right (by omega) (by omega)
          have hnc : zCd b m p ≠ -2 := by rw [hcd, ev]; exact i_nm2 (by omega)
          exact ⟨Jy, rfl, (f0.tr f1).tr fy, y3, y5.trans hcd.symm, fun _ => ⟨y4, y6⟩, fun h => absurd h hnc⟩
      · rw [st, zOne_f hl, if_pos rfl, zOne_f hd, if_pos rfl, b_sign hbp]
        have hen : zEn b m p = p + 1 := by unfold zEn; rw [if_pos hlt, if_neg hl, if_neg hd]
        have hcd : zCd b m p = if zSgn (b p) = true then 11000 + nI (b p) else -2 := by unfold zCd; rw [if_pos hlt, if_neg hl, if_neg hd]
        rw [g4, nI_1]
        have y3 : (wI J0 5 4 (nI (p + 1))).2 5 3 = nI p := by rw [wI_g, if_neg (by omega)]; exact g3
        have y4 : (wI J0 5 4 (nI (p + 1))).2 5 4 = nI (p + 1) := by rw [wI_g, if_pos rfl]
        have y6 : (wI J0 5 4 (nI (p + 1))).2 5 6 = -1 := by rw [wI_g, if_neg (by omega)]; exact g6
        have fy : zFrT J0 (wI J0 5 4 (nI (p + 1))) := zFrT.wr (by omega)
        generalize wI J0 5 4 (nI (p + 1)) = Jy at y3 y4 y6 fy
        by_cases hs : zSgn (b p) = true
        · rw [if_pos hs] at hcd
          have hnc : zCd b m p ≠ -2 := by
            rw [hcd, show (11000 : Int32) = nI 11000 from rfl, nI_add]
            exact i_nm2 (by omega)
          refine ⟨_, if_pos hs, (f0.tr fy).tr (zFrT.wr (by omega)), ?_, ?_, fun _ => ⟨?_, ?_⟩, fun h => absurd h hnc⟩
          · rw [wI_g, if_neg (by omega)]; exact y3
          · rw [wI_g, if_pos rfl, hcd]
          · rw [wI_g, if_neg (by omega), hen]; exact y4
          · rw [wI_g, if_neg (by omega)]; exact y6
        · rw [if_neg hs] at hcd
          obtain ⟨J2, e2, f2, b5, b6⟩ := b_fail (p := p) y6 y3
          have b3 : J2.2 5 3 = Jy.2 5 3 := by
            have := e2
            unfold F_X2_fail at this
            rw [if_pos y6] at this
            rw [← Option.some.inj this, wI_g, if_neg (by omega), wI_g, if_neg (by omega)]
          exact ⟨J2, by rw [if_neg hs, e2], (f0.tr fy).tr f2, by rw [b3]; exact y3, by rw [b5, hcd], fun h => absurd hcd h, fun _ => b6⟩
  · have hcd : zCd b m p = -1 := by unfold zCd; rw [if_neg hlt]
    have hen : zEn b m p = p := by unfold zEn; rw [if_neg hlt]
    refine ⟨wI J0 5 5 (-1), ?_, f0.tr (zFrT.wr (by omega)), ?_, ?_, fun _ => ⟨?_, ?_⟩, fun h => absurd (h.symm.trans hcd) (by decide)⟩
    · unfold F_X2_advance_38
      rw [h4, hJ0, g4, b_byte t0 (by omega), if_neg hlt, Option.bind_some]
      exact if_pos rfl
    · rw [wI_g, if_neg (by omega)]; exact g3
    · rw [wI_g, if_pos rfl, hcd]
    · rw [wI_g, if_neg (by omega), hen]; exact g4
    · rw [wI_g, if_neg (by omega)]; exact g6
theorem t_adv (t : zTp J b m) (h4 : J.2 5 4 = nI e) (he : e ≤ m) (h6 : J.2 5 6 = -1) : ∃ J1, F_X2_advance J = some J1 ∧ zGo J J1 b m (zNb b m e) := by
  have hm := t.1
  unfold zNb
  generalize hE : zSkip zBlk b m (m - e) e = T
  refine zLoop (G := fun fu (q : Nat × zzJ) => F_X2_advance_0 fu q.2) (P := fun k q => q.1 = k ∧ zSkip zBlk b m (m - k) k = T ∧ zFrT J q.2 ∧ q.2.2 5 4 = nI k ∧ q.2.2 5 6 = -1) (Q := fun r => ∃ J1, r = some J1 ∧ zGo J J1 b m T) (s := m) ?_ (m - e) e (e, J) (by omega) ⟨rfl, hE, zFrT.rf, h4, h6⟩ 4096 (by omega)
  rintro k ⟨k2, J'⟩ hk ⟨rfl, hP, fr, a4, a6⟩
  dsimp only at hk hP fr a4 a6 ⊢
  have t' := t.fr fr
  have fin : zSkip zBlk b m (m - k2) k2 = k2 → ∃ r, (∃ J1, r = some J1 ∧ zGo J J1 b m T) ∧ F_X2_advance_38 J' = r := by
    intro hz
    obtain ⟨J1, e1, g1⟩ := b_38 t' a4 hk a6
    rw [hz] at hP
    subst hP
    exact ⟨_, ⟨J1, rfl, fr.tr g1.1, g1.2⟩, e1⟩
  by_cases hlt : k2 < m
  · have st : ∀ fu, F_X2_advance_0 (fu + 1) J' = (if zOne (zBlk (b k2) = true) = (0 : Int32) then F_X2_advance_38 J' else F_X2_advance_0 fu (wI J' 5 4 (nI (k2 + 1)))) := by
      intro fu
      rw [F_X2_advance_0, a4, t'.2.1, if_pos ((i_lts (by omega) (by omega)).2 hlt), b_byte t' (by omega), if_pos hlt, Option.bind_some]
      dsimp only
      rw [b_blank (t.2.2.2 k2), Option.bind_some]
      dsimp only
      rw [a4, ← nI_succ]
    by_cases hl : zBlk (b k2) = true
    · right
      refine ⟨hlt, (k2 + 1, wI J' 5 4 (nI (k2 + 1))), ⟨rfl, (zSkip_go hlt hl).symm.trans hP, fr.tr (zFrT.wr (by omega)), ?_, ?_⟩, fun fu => ?_⟩
      · dsimp only; rw [wI_g, if_pos rfl]
      · dsimp only; rw [wI_g, if_neg (by omega)]; exact a6
      · rw [st, zOne_t hl]
        exact if_neg n10
    · left
      obtain ⟨r, h1, h2⟩ := fin (zSkip_no (fun q => hl q.2) _)
      exact ⟨r, h1, fun fu => by rw [st, zOne_f hl, if_pos rfl, h2]⟩
  · left
    obtain ⟨r, h1, h2⟩ := fin (zSkip_no (fun q => hlt q.1) _)
    exact ⟨r, h1, fun fu => by rw [F_X2_advance_0, a4, t'.2.1, if_neg (fun q => hlt ((i_lts (by omega) (by omega)).1 q)), h2]⟩
end TC2
