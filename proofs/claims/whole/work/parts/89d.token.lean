/-! text: the reference's tokens -/
def zKi (b : Nat → Nat) (m p : Nat) : Nat := if p < m then (if zLtr (b p) then 1 else if zDgt (b p) then (if 4 < zEn b m p - p then 4 else 2) else if zSgn (b p) then 3 else 4) else 0
/-- the reference's text -/
abbrev zTr (J : zzJ) (b : Nat → Nat) (m f : Nat) : Prop := (m ≤ 160 ∧ f + 160 ≤ 960) ∧ J.2 46 22 = nI m ∧ J.2 46 21 = nI f ∧ (∀ k, k < m → J.2 47 (f + k) = nI (b k)) ∧ ∀ k, b k < 256
/-- but for the token nothing has changed -/
abbrev zFrN (J J1 : zzJ) : Prop := (∀ c, c ≠ 46 → J1.2 c = J.2 c) ∧ (∀ k, (k < 23 ∨ 25 < k) → J1.2 46 k = J.2 46 k) ∧ ∀ c k, (c ≠ 46 ∨ k ≠ 26) → J1.1 c k = J.1 c k
/-- the token at p -/
abbrev zGr (J1 : zzJ) (b : Nat → Nat) (m p : Nat) : Prop := J1.2 46 25 = nI p ∧ J1.2 46 24 = nI (zKi b m p) ∧ (zKi b m p ≠ 4 → J1.2 46 23 = nI (zEn b m p)) ∧ (zKi b m p = 2 → (J1.1 46 26).toInt32 = zNv b p (zEn b m p - p)) ∧ (zKi b m p = 3 → J1.1 46 26 = (nI (b p)).toInt64)
section TR
variable {J J1 J2 : zzJ} {b : Nat → Nat} {m p q e f i j k x : Nat}
theorem zFrN.rf : zFrN J J := ⟨fun _ _ => rfl, fun _ _ => rfl, fun _ _ _ => rfl⟩
theorem zFrN.tr (h1 : zFrN J J1) (h2 : zFrN J1 J2) : zFrN J J2 := ⟨fun c h => (h2.1 c h).trans (h1.1 c h), fun k h => (h2.2.1 k h).trans (h1.2.1 k h), fun c k h => (h2.2.2 c k h).trans (h1.2.2 c k h)⟩
theorem zFrN.wr {v : Int32} (h : k = 23 ∨ k = 24 ∨ k = 25) : zFrN J (wI J 46 k v) := ⟨fun c hc => wI_ne hc, fun j hj => by rw [wI_g, if_neg (by omega)], fun _ _ _ => rfl⟩
theorem wL_1 {v : Int64} : (wL J 46 26 v).1 46 26 = v := by
  show zzUp J.1 46 26 v 46 26 = v
  unfold zzUp
  simp
theorem zFrN.wl {v : Int64} : zFrN J (wL J 46 26 v) := ⟨fun _ _ => rfl, fun _ _ => rfl, fun c k h => by
  show zzUp J.1 46 26 v c k = J.1 c k
  unfold zzUp
  rw [if_neg (by omega)]⟩
theorem zTr.fr (t : zTr J b m f) (h : zFrN J J1) : zTr J1 b m f := ⟨t.1, (h.2.1 22 (by omega)).trans t.2.1, (h.2.1 21 (by omega)).trans t.2.2.1, fun k hk => by rw [h.1 47 (by omega)]; exact t.2.2.2.1 k hk, t.2.2.2.2⟩
theorem r_byte (t : zTr J b m f) (hp : p ≤ 160) : F_X7_byteAt (nI p) J = some ((if p < m then nI (b p) else -1), J) := by
  obtain ⟨⟨hm, hf⟩, t1, t2, t3, t4⟩ := t
  unfold F_X7_byteAt
  rw [t1, t2]
  by_cases h : p < m
  · rw [if_pos ((i_lts (by omega) (by omega)).2 h), if_pos h, nI_add, if_pos (i_ix (by omega) (by omega)), i_cm (by omega), t3 p h]
  · rw [if_neg (fun q => h ((i_lts (by omega) (by omega)).1 q)), if_neg h]
theorem r_ltr (hx : x < 256) : F_X7_in (nI x).toInt64 97 122 J = some (zOne (zLtr x = true), J) := by
  have e1 : (97 : Int64).toInt = 97 := rfl
  have e2 : (122 : Int64).toInt = 122 := rfl
  rw [b_inI, i_nI (by omega), e1, e2]
  unfold zOne zLtr
  by_cases h : 97 ≤ x ∧ x ≤ 122
  · rw [if_pos (by omega), if_pos (by simp; omega)]
  · rw [if_neg (by omega), if_neg (by simp; omega)]
theorem r_dgt (hx : x < 256) : F_X7_in (nI x).toInt64 48 57 J = some (zOne (zDgt x = true), J) := by
  have e1 : (48 : Int64).toInt = 48 := rfl
  have e2 : (57 : Int64).toInt = 57 := rfl
  rw [b_inI, i_nI (by omega), e1, e2]
  unfold zOne zDgt
  by_cases h : 48 ≤ x ∧ x ≤ 57
  · rw [if_pos (by omega), if_pos (by simp; omega)]
  · rw [if_neg (by omega), if_neg (by simp; omega)]
theorem r_m1 {lo hi : Int64} (h : ¬ lo.toInt ≤ -1) : F_X7_in (-1 : Int32).toInt64 lo hi J = some (0, J) := by
  have e1 : (-1 : Int32).toInt = -1 := rfl
  rw [b_inI, e1, zOne_f (fun q => h q.1)]
theorem r_100 (t : zTr J b m f) (h23 : J.2 46 23 = nI p) (hp : p ≤ m) : ∃ J1, F_X7_next_100 4096 J = some J1 ∧ J1.1 = J.1 ∧ (∀ c, c ≠ 46 → J1.2 c = J.2 c) ∧ (∀ k, k ≠ 23 → J1.2 46 k = J.2 46 k) ∧ J1.2 46 23 = nI (zSkip zLtr b m (m - p) p) := by
  have hm := t.1.1
  generalize hE : zSkip zLtr b m (m - p) p = E
  refine zLoop (G := fun fu (q : Nat × zzJ) => F_X7_next_100 fu q.2) (P := fun k q => q.1 = k ∧ zSkip zLtr b m (m - k) k = E ∧ q.2.2 46 23 = nI k ∧ q.2.1 = J.1 ∧ (∀ c, c ≠ 46 → q.2.2 c = J.2 c) ∧ ∀ k, k ≠ 23 → q.2.2 46 k = J.2 46 k) (Q := fun r => ∃ J1, r = some J1 ∧ J1.1 = J.1 ∧ (∀ c, c ≠ 46 → J1.2 c = J.2 c) ∧ (∀ k, k ≠ 23 → J1.2 46 k = J.2 46 k) ∧ J1.2 46 23 = nI E) (s := m) ?_ (m - p) p (p, J) (by omega) ⟨rfl, hE, h23, rfl, fun _ _ => rfl, fun _ _ => rfl⟩ 4096 (by omega)
  rintro k ⟨k2, J'⟩ hk ⟨rfl, hP, a23, a1, a2, a3⟩
  dsimp only at hk hP a23 a1 a2 a3 ⊢
  have t' : zTr J' b m f := ⟨t.1, (a3 22 (by omega)).trans t.2.1, (a3 21 (by omega)).trans t.2.2.1, fun k hk => by rw [a2 47 (by omega)]; exact t.2.2.2.1 k hk, t.2.2.2.2⟩
  by_cases hlt : k2 < m
  · have st : ∀ fu, F_X7_next_100 (fu + 1) J' = (if zOne (zLtr (b k2) = true) = (0 : Int32) then some J' else F_X7_next_100 fu (wI J' 46 23 (nI (k2 + 1)))) := by
      intro fu
      rw [F_X7_next_100, a23, r_byte t' (by omega), if_pos hlt, Option.bind_some]
      dsimp only
      rw [r_ltr (t.2.2.2.2 k2), Option.bind_some]
      dsimp only
      rw [a23, ← nI_succ]
    by_cases hl : zLtr (b k2) = true
    · right
      refine ⟨hlt, (k2 + 1, wI J' 46 23 (nI (k2 + 1))), ⟨rfl, (zSkip_go hlt hl).symm.trans hP, ?_, a1, fun c hc => (wI_ne hc).trans (a2 c hc), fun k hk => ?_⟩, fun fu => ?_⟩
      · dsimp only; rw [wI_g, if_pos rfl]
      · dsimp only; rw [wI_g, if_neg hk]; exact a3 k hk
      · rw [st, zOne_t hl]
        exact if_neg n10
    · left
      rw [zSkip_no (fun q => hl q.2)] at hP
      refine ⟨_, ⟨J', rfl, a1, a2, a3, by rw [← hP]; exact a23⟩, fun fu => ?_⟩
      rw [st, zOne_f hl]
      exact if_pos rfl
  · left
    rw [zSkip_no (fun q => hlt q.1)] at hP
    refine ⟨_, ⟨J', rfl, a1, a2, a3, by rw [← hP]; exact a23⟩, fun fu => ?_⟩
    rw [F_X7_next_100, a23, r_byte t' (by omega), if_neg hlt, Option.bind_some]
    dsimp only
    rw [r_m1 (by decide), Option.bind_some]
    exact if_pos rfl
theorem r_160 (t : zTr J b m f) (h23 : J.2 46 23 = nI p) (h26 : J.1 46 26 = 0) (hp : p ≤ m) : ∃ J1, F_X7_next_160 4096 0 J = some J1 ∧ zFrN J J1 ∧ J1.2 46 25 = J.2 46 25 ∧ J1.2 46 24 = (if 4 < zSkip zDgt b m (m - p) p - p then 4 else 2) ∧ J1.2 46 23 = nI (zSkip zDgt b m (m - p) p) ∧ (zSkip zDgt b m (m - p) p - p ≤ 4 → (J1.1 46 26).toInt32 = zNv b p (zSkip zDgt b m (m - p) p - p)) := by
  have hm := t.1.1
  generalize hE : zSkip zDgt b m (m - p) p = E
  refine zLoop (G := fun fu (q : Nat × zzJ) => F_X7_next_160 fu (nI (q.1 - p)) q.2) (P := fun k q => q.1 = k ∧ p ≤ k ∧ zSkip zDgt b m (m - k) k = E ∧ q.2.2 46 23 = nI k ∧ zFrN J q.2 ∧ q.2.2 46 25 = J.2 46 25 ∧ (k - p ≤ 4 → (q.2.1 46 26).toInt32 = zNv b p (k - p))) (Q := fun r => ∃ J1, r = some J1 ∧ zFrN J J1 ∧ J1.2 46 25 = J.2 46 25 ∧ J1.2 46 24 = (if 4 < E - p then 4 else 2) ∧ J1.2 46 23 = nI E ∧ (E - p ≤ 4 → (J1.1 46 26).toInt32 = zNv b p (E - p))) (s := m) ?_ (m - p) p (p, J) (by omega) ⟨rfl, Nat.le_refl p, hE, h23, zFrN.rf, rfl, fun _ => by dsimp only; rw [Nat.sub_self, h26]; rfl⟩ 4096 (by omega) |> fun h => by
    dsimp only at h
    rw [Nat.sub_self] at h
    exact h
  rintro k ⟨k2, J'⟩ hk ⟨rfl, hpk, hP, a23, fr, a25, a26⟩
  dsimp only at hk hpk hP a23 fr a25 a26 ⊢
  have t' := t.fr fr
  have c4 : (4 : Int32) < nI (k2 - p) ↔ 4 < k2 - p := i_lts (i := 4) (by omega) (by omega)
  have c5 : nI (k2 - p) < (4 : Int32) ↔ k2 - p < 4 := i_lts (s := 4) (by omega) (by omega)
  have stop : k2 = E → ∃ r, (∃ J1, r = some J1 ∧ zFrN J J1 ∧ J1.2 46 25 = J.2 46 25 ∧ J1.2 46 24 = (if 4 < E - p then 4 else 2) ∧ J1.2 46 23 = nI E ∧ (E - p ≤ 4 → (J1.1 46 26).toInt32 = zNv b p (E - p))) ∧ (if (4 : Int32) < nI (k2 - p) then some (wI J' 46 24 (4 : Int32)) else some (wI J' 46 24 (2 : Int32))) = r := by
    intro hE2
    subst hE2
    refine ⟨_, ⟨wI J' 46 24 (if 4 < k2 - p then 4 else 2), rfl, fr.tr (zFrN.wr (by omega)), ?_, ?_, ?_, a26⟩, ?_⟩
    · rw [wI_g, if_neg (by omega)]; exact a25
    · rw [wI_g, if_pos rfl]
    · rw [wI_g, if_neg (by omega)]; exact a23
    · by_cases h : 4 < k2 - p
      · rw [if_pos (c4.2 h), if_pos h]
      · rw [if_neg (fun q => h (c4.1 q)), if_neg h]
  by_cases hlt : k2 < m
  · have st : ∀ fu, F_X7_next_160 (fu + 1) (nI (k2 - p)) J' = (if zOne (zDgt (b k2) = true) = (0 : Int32) then (if (4 : Int32) < nI (k2 - p) then some (wI J' 46 24 (4 : Int32)) else some (wI J' 46 24 (2 : Int32))) else (if nI (k2 - p) < (4 : Int32) then F_X7_next_160 fu (nI (k2 + 1 - p)) (wI (wL J' 46 26 (((10 : Int64) * (J'.1 46 26) + (nI (b k2)).toInt64) - (48 : Int64))) 46 23 (nI (k2 + 1))) else F_X7_next_160 fu (nI (k2 + 1 - p)) (wI (wL J' 46 26 (J'.1 46 26)) 46 23 (nI (k2 + 1))))) := by
      intro fu
      have w23 : ∀ v, (wL J' 46 26 v).2 46 23 = nI k2 := fun v => a23
      rw [F_X7_next_160, a23, r_byte t' (by omega), if_pos hlt, Option.bind_some]
      dsimp only
      rw [r_dgt (t.2.2.2.2 k2), Option.bind_some]
      dsimp only
      rw [a23, r_byte t' (by omega), if_pos hlt, Option.bind_some]
      unfold F_X7_next_216
      dsimp only
      rw [w23, w23, show k2 + 1 - p = (k2 - p) + 1 by omega, ← nI_succ, ← nI_succ]
    by_cases hl : zDgt (b k2) = true
    · right
      by_cases h4 : k2 - p < 4
      · refine ⟨hlt, (k2 + 1, wI (wL J' 46 26 (((10 : Int64) * (J'.1 46 26) + (nI (b k2)).toInt64) - (48 : Int64))) 46 23 (nI (k2 + 1))), ⟨rfl, by omega, (zSkip_go hlt hl).symm.trans hP, ?_, (fr.tr zFrN.wl).tr (zFrN.wr (by omega)), ?_, fun _ => ?_⟩, fun fu => ?_⟩
        · dsimp only; rw [wI_g, if_pos rfl]
        · dsimp only; rw [wI_g, if_neg (by omega)]; exact a25
        · show ((wL J' 46 26 (((10 : Int64) * (J'.1 46 26) + (nI (b k2)).toInt64) - (48 : Int64))).1 46 26).toInt32 = _
          rw [wL_1, Int64.toInt32_sub, Int64.toInt32_add, Int64.toInt32_mul, a26 (by omega), show k2 + 1 - p = (k2 - p) + 1 by omega, zNv, show p + (k2 - p) = k2 by omega, Int32.mul_comm, Int32.toInt32_toInt64]
          rfl
        · rw [st, zOne_t hl, if_neg n10, if_pos (c5.2 h4)]
      · refine ⟨hlt, (k2 + 1, wI (wL J' 46 26 (J'.1 46 26)) 46 23 (nI (k2 + 1))), ⟨rfl, by omega, (zSkip_go hlt hl).symm.trans hP, ?_, (fr.tr zFrN.wl).tr (zFrN.wr (by omega)), ?_, fun h => by omega⟩, fun fu => ?_⟩
        · dsimp only; rw [wI_g, if_pos rfl]
        · dsimp only; rw [wI_g, if_neg (by omega)]; exact a25
        · rw [st, zOne_t hl, if_neg n10, if_neg (fun q => h4 (c5.1 q))]
    · left
      rw [zSkip_no (fun q => hl q.2)] at hP
      obtain ⟨r, h1, h2⟩ := stop hP
      refine ⟨r, h1, fun fu => ?_⟩
      rw [st, zOne_f hl, if_pos rfl]
      exact h2
  · left
    rw [zSkip_no (fun q => hlt q.1)] at hP
    obtain ⟨r, h1, h2⟩ := stop hP
    refine ⟨r, h1, fun fu => ?_⟩
    rw [F_X7_next_160, a23, r_byte t' (by omega), if_neg hlt, Option.bind_some]
    dsimp only
    rw [r_m1 (by decide), Option.bind_some]
    exact (if_pos rfl).trans h2
end TR
