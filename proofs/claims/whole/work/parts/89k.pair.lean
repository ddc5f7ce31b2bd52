/-! text: both readers, sound or failed -/
abbrev zCS (b : Nat → Nat) (m : Nat) (g : Bool) (p n r : Nat) (J : zzJ) : Prop := if g = true then zSc J b m p n r else zSf J b m p n r
abbrev zRS (b : Nat → Nat) (m f : Nat) (g : Bool) (p o : Nat) (J : zzJ) : Prop := zTr J b m f ∧ (if g = true then zGr J b m p ∧ zCd b m p ≠ -2 ∧ J.2 46 27 = nI o ∧ J.2 46 28 = 0 else (J.2 46 28 = 1 ∧ J.2 46 29 = nI p) ∨ (J.2 46 28 = 0 ∧ zGr J b m p ∧ zCd b m p = -2))
/-- the token's number, or what stands for it behind a fault -/
def zTk (b : Nat → Nat) (m : Nat) (g : Bool) (p : Nat) : Int32 := if g = true then zCd b m p else -2
/-- whether the next token is sound -/
def zOkT (b : Nat → Nat) (m p : Nat) : Bool := decide (zCd b m p ≠ -2)
/-- the reference: but for the token, what is open and the fault nothing has changed -/
abbrev zFrM (J J1 : zzJ) : Prop := (∀ c, c ≠ 46 → J1.2 c = J.2 c) ∧ (∀ k, (k < 23 ∨ 29 < k) → J1.2 46 k = J.2 46 k) ∧ ∀ c k, (c ≠ 46 ∨ k ≠ 26) → J1.1 c k = J.1 c k
section PA
variable {J J1 J2 : zzJ} {b : Nat → Nat} {m p q e f i j k x n r r' o c : Nat} {v : Int32} {g : Bool}
theorem zFrM.rf : zFrM J J := ⟨fun _ _ => rfl, fun _ _ => rfl, fun _ _ _ => rfl⟩
theorem zFrM.tr (h1 : zFrM J J1) (h2 : zFrM J1 J2) : zFrM J J2 := ⟨fun c h => (h2.1 c h).trans (h1.1 c h), fun k h => (h2.2.1 k h).trans (h1.2.1 k h), fun c k h => (h2.2.2 c k h).trans (h1.2.2 c k h)⟩
theorem zFrM.wr (h : 23 ≤ k ∧ k ≤ 29) : zFrM J (wI J 46 k v) := ⟨fun c hc => wI_ne hc, fun j hj => by rw [wI_g, if_neg (by omega)], fun _ _ _ => rfl⟩
theorem zFrM.of (h : zFrN J J1) : zFrM J J1 := ⟨h.1, fun k hk => h.2.1 k (by omega), h.2.2⟩
theorem zTr.fm (t : zTr J b m f) (h : zFrM J J1) : zTr J1 b m f := ⟨t.1, (h.2.1 22 (by omega)).trans t.2.1, (h.2.1 21 (by omega)).trans t.2.2.1, fun k hk => by rw [h.1 47 (by omega)]; exact t.2.2.2.1 k hk, t.2.2.2.2⟩
theorem tk_t : zTk b m true p = zCd b m p := if_pos rfl
theorem tk_f : zTk b m false p = -2 := if_neg (by decide)
theorem tk_no (hc : c < 2147483646) : ¬ zTk b m false p = nI c := fun q => i_nm2 hc (q.symm.trans tk_f)
theorem cs_t (h : zCS b m true p n r J) : zSc J b m p n r := by unfold zCS at h; rw [if_pos rfl] at h; exact h
theorem cs_f (h : zCS b m false p n r J) : zSf J b m p n r := by unfold zCS at h; rw [if_neg (by decide)] at h; exact h
theorem cs_t2 (h : zSc J b m p n r) : zCS b m true p n r J := by unfold zCS; rw [if_pos rfl]; exact h
theorem cs_f2 (h : zSf J b m p n r) : zCS b m false p n r J := by unfold zCS; rw [if_neg (by decide)]; exact h
theorem cs_tk (h : zCS b m g p n r J) : J.2 5 5 = zTk b m g p := by
  cases g
  · exact (cs_f h).2.2.1.trans tk_f.symm
  · exact (cs_t h).2.2.2.1.trans tk_t.symm
theorem cs_m (h : zCS b m g p n r J) : m ≤ 160 := by
  cases g
  · exact (cs_f h).1.1
  · exact (cs_t h).1.1
/-- what is a token's number is no fault -/
theorem tk_is (h : zTk b m g p = v) (hv : v ≠ -2) : g = true ∧ zCd b m p = v := by
  cases g
  · exact absurd (h.symm.trans tk_f) hv
  · exact ⟨rfl, tk_t.symm.trans h⟩
/-- a token that has a number is no end -/
theorem cd_lt (h : zCd b m p ≠ -1) : p < m := by
  unfold zCd at h
  split at h
  · assumption
  · exact absurd rfl h
theorem cs_adv (h : zCS b m true p n r J) (hp : p ≤ m) : ∃ J1, F_X2_advance J = some J1 ∧ zFrD r J J1 ∧ zCS b m (zOkT b m (zNt b m p)) (zNt b m p) n r J1 := by
  obtain ⟨J1, e1, fr, d⟩ := s_adv (cs_t h) hp
  refine ⟨J1, e1, fr, ?_⟩
  unfold zOkT
  rcases d with ⟨d1, d2⟩ | ⟨d1, d2⟩
  · rw [decide_eq_true d1]; exact cs_t2 d2
  · rw [decide_eq_false (fun q => q d1)]; exact cs_f2 d2
theorem cs_fail (h : zCS b m g p n r J) (hp : p ≤ m) : ∃ J1, F_X2_fail J = some J1 ∧ zFrD r J J1 ∧ zCS b m false p n r J1 := by
  cases g
  · obtain ⟨J1, e1, f1, d⟩ := s_fail2 (cs_f h)
    exact ⟨J1, e1, f1, cs_f2 d⟩
  · obtain ⟨J1, e1, f1, d⟩ := s_fail (cs_t h) hp
    exact ⟨J1, e1, f1, cs_f2 d⟩
theorem cs_add (h : zCS b m g p n r J) (hr : r < 960) : ∃ J1, F_X5_add v J = some J1 ∧ zFrD r J J1 ∧ zCS b m g p n (r + 1) J1 ∧ (g = true → J1.2 2 r = v) := by
  cases g
  · obtain ⟨J1, e1, f1, d⟩ := s_add2 (v := v) (cs_f h) hr
    exact ⟨J1, e1, f1, cs_f2 d, fun q => absurd q (by decide)⟩
  · obtain ⟨J1, e1, f1, d, w, _⟩ := s_add (v := v) (cs_t h) hr
    exact ⟨J1, e1, f1, cs_t2 d, fun _ => w⟩
theorem cs_opens (h : zCS b m true p n r J) (hp : p ≤ m) (ho : o < 5) : ∃ J1, F_X2_opens (nI o) J = some (1, J1) ∧ zFrD r J J1 ∧ zCS b m (zOkT b m (zNt b m p)) (zNt b m p) n r J1 := by
  obtain ⟨J1, e1, fr, d⟩ := cs_adv h hp
  refine ⟨J1, ?_, fr, d⟩
  unfold F_X2_opens
  rw [if_pos (show nI o < (5 : Int32) from (i_lts (s := 5) (by omega) (by omega)).2 ho), e1, Option.bind_some]
theorem cs_opens5 (h : zCS b m true p n r J) (hp : p ≤ m) : ∃ J1, F_X2_opens (nI 5) J = some (0, J1) ∧ zFrD r J J1 ∧ zCS b m false p n r J1 := by
  obtain ⟨J1, e1, fr, d⟩ := cs_fail h hp
  refine ⟨J1, ?_, fr, d⟩
  unfold F_X2_opens
  rw [if_neg (show ¬ nI 5 < (5 : Int32) by decide), e1, Option.bind_some]
theorem cs_expect (h : zCS b m g p n r J) (hp : p ≤ m) (hc : c < 2147483646) : ∃ J1, F_X2_expect (nI c) J = some J1 ∧ zFrD r J J1 ∧ (zTk b m g p = nI c → zCS b m (zOkT b m (zNt b m p)) (zNt b m p) n r J1) ∧ (¬ zTk b m g p = nI c → zCS b m false p n r J1) := by
  unfold F_X2_expect
  rw [cs_tk h]
  by_cases hq : zTk b m g p = nI c
  · obtain ⟨rfl, _⟩ := tk_is hq (i_nm2 hc)
    obtain ⟨J1, e1, fr, d⟩ := cs_adv h hp
    exact ⟨J1, by rw [if_pos hq, e1, Option.bind_some], fr, fun _ => d, fun z => absurd hq z⟩
  · obtain ⟨J1, e1, fr, d⟩ := cs_fail h hp
    exact ⟨J1, by rw [if_neg hq, e1, Option.bind_some], fr, fun z => absurd z hq, fun _ => d⟩
theorem rs_t (h : zRS b m f true p o J) : zTr J b m f ∧ zGr J b m p ∧ zCd b m p ≠ -2 ∧ J.2 46 27 = nI o ∧ J.2 46 28 = 0 := by
  obtain ⟨t, d⟩ := h
  rw [if_pos rfl] at d
  exact ⟨t, d⟩
theorem rs_f (h : zRS b m f false p o J) : zTr J b m f ∧ ((J.2 46 28 = 1 ∧ J.2 46 29 = nI p) ∨ (J.2 46 28 = 0 ∧ zGr J b m p ∧ zCd b m p = -2)) := by
  obtain ⟨t, d⟩ := h
  rw [if_neg (by decide)] at d
  exact ⟨t, d⟩
theorem rs_t2 (t : zTr J b m f) (h : zGr J b m p) (hc : zCd b m p ≠ -2) (h27 : J.2 46 27 = nI o) (h28 : J.2 46 28 = 0) : zRS b m f true p o J := ⟨t, by rw [if_pos rfl]; exact ⟨h, hc, h27, h28⟩⟩
theorem rs_f2 (t : zTr J b m f) (h : (J.2 46 28 = 1 ∧ J.2 46 29 = nI p) ∨ (J.2 46 28 = 0 ∧ zGr J b m p ∧ zCd b m p = -2)) : zRS b m f false p o J := ⟨t, by rw [if_neg (by decide)]; exact h⟩
theorem rs_fo (h : zRS b m f false p o J) : zRS b m f false p x J := rs_f2 (rs_f h).1 (rs_f h).2
theorem rs_sign (h : zRS b m f g p o J) (hc : c < 64) : F_X7_isSign (nI c) J = some (zOne (zTk b m g p = nI (11000 + c)), J) := by
  cases g
  · obtain ⟨t, d⟩ := rs_f h
    rw [zOne_f (tk_no (by omega))]
    rcases d with ⟨d, _⟩ | ⟨d, d2, d3⟩
    · exact r_badS (by rw [d]; exact n10)
    · rw [r_isSign d2 d (t.2.2.2.2 p) hc, zOne_f (fun q => i_nm2 (k := 11000 + c) (by omega) (q.symm.trans d3))]
  · obtain ⟨t, d2, _, _, d⟩ := rs_t h
    rw [r_isSign d2 d (t.2.2.2.2 p) hc, tk_t]
theorem rs_word (h : zRS b m f g p o J) (hi : i < 12) : F_X7_isWord (zLw (zzTx (i + 1)) 0) (zLw (zzTx (i + 1)) 1) (zLw (zzTx (i + 1)) 2) (zLw (zzTx (i + 1)) 3) (zLw (zzTx (i + 1)) 4) (zLw (zzTx (i + 1)) 5) (zLw (zzTx (i + 1)) 6) (zLw (zzTx (i + 1)) 7) J = some (zOne (zTk b m g p = nI (10000 + i)), J) := by
  cases g
  · obtain ⟨t, d⟩ := rs_f h
    rw [zOne_f (tk_no (by omega))]
    rcases d with ⟨d, _⟩ | ⟨d, d2, d3⟩
    · exact r_bad (by rw [d]; exact n10)
    · rw [r_isWi t d2 d hi, zOne_f (fun q => i_nm2 (k := 10000 + i) (by omega) (q.symm.trans d3))]
  · obtain ⟨t, d2, _, _, d⟩ := rs_t h
    rw [r_isWi t d2 d hi, tk_t]
theorem rs_or (h : zRS b m f g p o J) : F_X7_isWord (111 : Int32) (114 : Int32) (0 : Int32) (0 : Int32) (0 : Int32) (0 : Int32) (0 : Int32) (0 : Int32) J = some (zOne (zTk b m g p = 10009), J) := rs_word (i := 9) h (by omega)
theorem rs_and (h : zRS b m f g p o J) : F_X7_isWord (97 : Int32) (110 : Int32) (100 : Int32) (0 : Int32) (0 : Int32) (0 : Int32) (0 : Int32) (0 : Int32) J = some (zOne (zTk b m g p = 10010), J) := rs_word (i := 10) h (by omega)
theorem rs_not (h : zRS b m f g p o J) : F_X7_isWord (110 : Int32) (111 : Int32) (116 : Int32) (0 : Int32) (0 : Int32) (0 : Int32) (0 : Int32) (0 : Int32) J = some (zOne (zTk b m g p = 10011), J) := rs_word (i := 11) h (by omega)
/-- the reference goes on -/
theorem rs_next (h : zRS b m f true p o J) (hp : p ≤ m) : ∃ J1, F_X7_next J = some J1 ∧ zFrM J J1 ∧ zRS b m f (zOkT b m (zNt b m p)) (zNt b m p) o J1 := by
  obtain ⟨t, gr, hc, h27, h28⟩ := rs_t h
  obtain ⟨J1, e1, fr, g1⟩ := r_next t (gr.2.2.1 (fun q => hc (cd_4 q))) (zEn_le hp).2
  have k27 : J1.2 46 27 = nI o := (fr.2.1 27 (by omega)).trans h27
  have k28 : J1.2 46 28 = 0 := (fr.2.1 28 (by omega)).trans h28
  refine ⟨J1, e1, zFrM.of fr, ?_⟩
  unfold zOkT
  by_cases hq : zCd b m (zNt b m p) = -2
  · rw [decide_eq_false (fun q => q hq)]
    exact rs_f2 (t.fr fr) (Or.inr ⟨k28, g1, hq⟩)
  · rw [decide_eq_true hq]
    exact rs_t2 (t.fr fr) g1 hq k27 k28
/-- the reference fails -/
theorem rs_fail (h : zRS b m f g p o J) : ∃ J1, F_X7_fail J = some J1 ∧ zFrM J J1 ∧ zRS b m f false p x J1 ∧ J1.2 46 28 = 1 := by
  have st : J.2 46 28 = 0 → J.2 46 25 = nI p → ∃ J1, F_X7_fail J = some J1 ∧ zFrM J J1 ∧ zRS b m f false p x J1 ∧ J1.2 46 28 = 1 := by
    intro h28 h25
    have fr : zFrM J (wI (wI J 46 28 1) 46 29 (nI p)) := (zFrM.wr (by omega)).tr (zFrM.wr (by omega))
    have k28 : (wI (wI J 46 28 1) 46 29 (nI p)).2 46 28 = 1 := by rw [wI_g, if_neg (by omega), wI_g, if_pos rfl]
    refine ⟨_, ?_, fr, rs_f2 (h.1.fm fr) (Or.inl ⟨k28, ?_⟩), k28⟩
    · unfold F_X7_fail
      rw [if_pos h28, wI_g, if_neg (by omega), h25]
    · rw [wI_g, if_pos rfl]
  cases g
  · obtain ⟨t, d⟩ := rs_f h
    rcases d with ⟨d, d2⟩ | ⟨d, d2, d3⟩
    · refine ⟨J, ?_, zFrM.rf, rs_f2 t (Or.inl ⟨d, d2⟩), d⟩
      unfold F_X7_fail
      rw [if_neg (by rw [d]; exact n10)]
    · exact st d d2.1
  · obtain ⟨t, d2, _, _, d⟩ := rs_t h
    exact st d d2.1
theorem rs_opens (h : zRS b m f true p o J) (hp : p ≤ m) (ho : o < 5) : ∃ J1, F_X7_opens J = some (1, J1) ∧ zFrM J J1 ∧ zRS b m f (zOkT b m (zNt b m p)) (zNt b m p) (o + 1) J1 := by
  obtain ⟨t, gr, hc, h27, h28⟩ := rs_t h
  have fr : zFrM J (wI J 46 27 (nI (o + 1))) := zFrM.wr (by omega)
  have hj : zRS b m f true p (o + 1) (wI J 46 27 (nI (o + 1))) := by
    refine rs_t2 (t.fm fr) ⟨?_, ?_, fun q => ?_, gr.2.2.2.1, gr.2.2.2.2⟩ hc ?_ ?_
    · rw [wI_g, if_neg (by omega)]; exact gr.1
    · rw [wI_g, if_neg (by omega)]; exact gr.2.1
    · rw [wI_g, if_neg (by omega)]; exact gr.2.2.1 q
    · rw [wI_g, if_pos rfl]
    · rw [wI_g, if_neg (by omega)]; exact h28
  obtain ⟨J1, e1, f1, g1⟩ := rs_next hj hp
  refine ⟨J1, ?_, fr.tr f1, g1⟩
  unfold F_X7_opens
  rw [if_neg (show ¬ J.2 46 27 = (5 : Int32) by rw [h27]; exact fun q => by have := i_inj (k := o) (m := 5) (by omega) (by omega) q; omega), h27, nI_1, e1, Option.bind_some]
theorem rs_opens5 (h : zRS b m f true p 5 J) : ∃ J1, F_X7_opens J = some (0, J1) ∧ zFrM J J1 ∧ zRS b m f false p x J1 := by
  obtain ⟨J1, e1, f1, g1, _⟩ := rs_fail (x := x) h
  obtain ⟨t, gr, hc, h27, h28⟩ := rs_t h
  refine ⟨J1, ?_, f1, g1⟩
  unfold F_X7_opens
  rw [if_pos (show J.2 46 27 = (5 : Int32) from h27), e1, Option.bind_some]
/-- one less is open -/
theorem rs_less (h : zRS b m f g p (o + 1) J) : ∃ J1, wI J 46 27 (J.2 46 27 - 1) = J1 ∧ zFrM J J1 ∧ zRS b m f g p o J1 := by
  have fr : zFrM J (wI J 46 27 (J.2 46 27 - 1)) := zFrM.wr (by omega)
  refine ⟨_, rfl, fr, ?_⟩
  have gg : zGr J b m p → zGr (wI J 46 27 (J.2 46 27 - 1)) b m p := fun gr => by
    refine ⟨?_, ?_, fun q => ?_, gr.2.2.2.1, gr.2.2.2.2⟩
    · rw [wI_g, if_neg (by omega)]; exact gr.1
    · rw [wI_g, if_neg (by omega)]; exact gr.2.1
    · rw [wI_g, if_neg (by omega)]; exact gr.2.2.1 q
  cases g
  · obtain ⟨t, d⟩ := rs_f h
    refine rs_f2 (t.fm fr) ?_
    rw [wI_g, wI_g, if_neg (by omega), if_neg (by omega)]
    rcases d with d | ⟨d, d2, d3⟩
    · exact Or.inl d
    · exact Or.inr ⟨d, gg d2, d3⟩
  · obtain ⟨t, d2, hc, h27, d⟩ := rs_t h
    refine rs_t2 (t.fm fr) (gg d2) hc ?_ ?_
    · rw [wI_g, if_pos rfl, h27, nI_pred]
    · rw [wI_g, if_neg (by omega)]; exact d
/-- whether it is bad, where nothing was bad behind the last step -/
theorem rs_28 (h : zRS b m f g p o J) : g = true → J.2 46 28 = 0 := fun q => by
  subst q
  exact (rs_t h).2.2.2.2
end PA
