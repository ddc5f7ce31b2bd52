/-! cell, copy, passengers -/
section SC
variable {L : Nat} {xs : Nat → Int32} {E : zEv2} {s t n z : Nat} {J J1 J2 : zzJ} {w w' : zVw} {x y v : Int32} {a r i : Nat}
theorem i_prd {m : Nat} (h : m < 1000000) : (nI m - 1).toInt = (m : Int) - 1 := pk_sub_toInt (b := 1) (by omega) (by omega)
theorem r_cellix {k : Nat} : (40 : Int32) * nI i + nI k = nI (40 * i + k) := ix_40
theorem c_cell (I : zInv L xs E s t n z J) : zAns L xs (F_X6_cell v x y) (F_X7_cell v x y) J := by
  by_cases hv : 0 ≤ v.toInt ∧ v.toInt < 4
  · obtain ⟨i, hi0, rfl⟩ := i_upto (x := v) (m := 3) (by omega) (by omega)
    have hi : i < 4 := by omega
    have hx4 : zzIx (nI i) 4 := i_ix (by omega) (by omega)
    have hc : (nI i).toNatClampNeg = i := i_cm (by omega)
    have rf : ∀ (J1 : zzJ) (q : Option (Int32 × zzJ)), (if (J1.2 62 i) = (0 : Int32) then some ((-11 : Int32), J1) else (Option.bind (F_X7_in x.toInt64 (0 : Int64) ((J1.2 64 i) - (1 : Int32)).toInt64 J1) fun q6 => (if q6.1 = (0 : Int32) then some ((-12 : Int32), q6.2) else (if (q6.2.2 63 i) = (0 : Int32) then (if zzIx (((40 : Int32) * nI i) + x) 160 then some ((1 : Int32), (wI q6.2 65 (((40 : Int32) * nI i) + x).toNatClampNeg (y.toInt8.toInt32))) else none) else (if (q6.2.2 63 i) = (1 : Int32) then (if zzIx (((40 : Int32) * nI i) + x) 160 then some ((1 : Int32), (wI q6.2 65 (((40 : Int32) * nI i) + x).toNatClampNeg (y.toInt16.toInt32))) else none) else (if zzIx (((40 : Int32) * nI i) + x) 160 then some ((1 : Int32), (wI q6.2 65 (((40 : Int32) * nI i) + x).toNatClampNeg y)) else none)))))) = q → F_X7_cell (nI i) x y J1 = q := by
      intro J1 q hq
      unfold F_X7_cell
      rw [r_isSheet, Option.bind_some, zOne_t hv]
      refine (if_neg n10).trans ?_
      simp only [if_pos hx4, hc]
      exact hq
    rcases I.2.2.2.2.2 i hi with ⟨p, q⟩ | ⟨d, m, hd, hm, s1, s2, s3, s4, s5, s6⟩
    · refine ⟨-11, J, J, ?_, rf _ _ ?_, E, s, t, n, z, I, I.1⟩
      · unfold F_X6_cell
        rw [b_sheet hi, Option.bind_some]
        dsimp only
        rw [if_pos (sh_k hi).1, b_missing hi, Option.bind_some, zOne_t p]
        exact if_neg n10
      · rw [if_pos q]
    · have nm : ¬ J.2 (38 + 2 * i) 0 = -1 := by rw [s1]; exact i_nm1 (by omega)
      have e64 : ∀ J1 : zzJ, J1.2 64 i = nI m → ((J1.2 64 i) - (1 : Int32)).toInt64.toInt = (m : Int) - 1 := fun J1 h => by rw [h, l_of, i_prd (by omega)]
      have l0 : (0 : Int64).toInt = 0 := rfl
      by_cases hx : 0 ≤ x.toInt ∧ x.toInt < m
      · obtain ⟨k, hk, rfl⟩ := i_upto (x := x) (m := 39) (by omega) (by omega)
        have hkm : k < m := by rw [i_nI (by omega)] at hx; omega
        refine ⟨1, wI J (39 + 2 * i) k (zCast d y), wI (wI J (39 + 2 * i) k (zCast d y)) 65 (40 * i + k) (zCast d y), ?_, rf _ _ ?_, E, s, t, n, z, ?_, zIA_wr (by omega) I.1⟩
        · unfold F_X6_cell
          rw [b_sheet hi, Option.bind_some]
          dsimp only
          rw [if_pos (sh_k hi).1, b_missing hi, Option.bind_some, zOne_f nm]
          refine (if_pos rfl).trans ?_
          dsimp only
          rw [b_shas hi, Option.bind_some, s2, i_nI (show m < 2147483648 by omega), zOne_t hx]
          refine (if_neg n10).trans ?_
          dsimp only
          rw [b_write hi hd s1 (by omega)]
          rfl
        · have f62 : (wI J (39 + 2 * i) k (zCast d y)).2 62 i = 1 := by rw [wI_ne (by omega)]; exact s3
          have f63 : (wI J (39 + 2 * i) k (zCast d y)).2 63 i = nI d := by rw [wI_ne (by omega)]; exact s4
          have f64 : (wI J (39 + 2 * i) k (zCast d y)).2 64 i = nI m := by rw [wI_ne (by omega)]; exact s5
          rw [if_neg (by rw [f62]; exact n10), b_inI, Option.bind_some, zOne_t (by rw [e64 _ f64, l0]; omega)]
          refine (if_neg n10).trans ?_
          dsimp only
          rw [f63, ix_40, if_pos (i_ix (show 40 * i + k < 160 by omega) (by omega)), if_pos (i_ix (show 40 * i + k < 160 by omega) (by omega)), if_pos (i_ix (show 40 * i + k < 160 by omega) (by omega)), i_cm (by omega)]
          unfold zCast
          rcases (show d = 0 ∨ d = 1 ∨ d = 2 by omega) with rfl | rfl | rfl <;> rfl
        · refine inv_S I rfl (fun b hb => by rw [wI_ne (by omega), wI_ne (by omega)]) (fun j hj => ?_)
          by_cases hji : j = i
          · subst hji
            right
            refine ⟨d, m, hd, hm, ?_, ?_, ?_, ?_, ?_, fun q hq => ?_⟩
            · rw [wI_ne (by omega), wI_ne (by omega)]; exact s1
            · rw [wI_ne (by omega), wI_ne (by omega)]; exact s2
            · rw [wI_ne (by omega), wI_ne (by omega)]; exact s3
            · rw [wI_ne (by omega), wI_ne (by omega)]; exact s4
            · rw [wI_ne (by omega), wI_ne (by omega)]; exact s5
            · rw [wI_ne (by omega), wI_get, wI_get]
              by_cases hqk : q = k
              · rw [if_pos ⟨rfl, hqk⟩, if_pos ⟨rfl, by omega⟩]
              · rw [if_neg (fun z => hqk z.2), if_neg (by omega), wI_ne (by omega)]
                exact s6 q hq
          · refine iS_o ?_ ?_ ?_ ?_ ?_ (fun q hq => ?_) (I.2.2.2.2.2 j hj)
            · rw [wI_ne (by omega), wI_ne (by omega)]
            · rw [wI_ne (by omega), wI_ne (by omega)]
            · rw [wI_ne (by omega), wI_ne (by omega)]
            · rw [wI_ne (by omega), wI_ne (by omega)]
            · rw [wI_ne (by omega), wI_ne (by omega)]
            · rw [wI_get, if_neg (by omega), wI_ne (by omega)]
      · refine ⟨-12, J, J, ?_, rf _ _ ?_, E, s, t, n, z, I, I.1⟩
        · unfold F_X6_cell
          rw [b_sheet hi, Option.bind_some]
          dsimp only
          rw [if_pos (sh_k hi).1, b_missing hi, Option.bind_some, zOne_f nm]
          refine (if_pos rfl).trans ?_
          dsimp only
          rw [b_shas hi, Option.bind_some, s2, i_nI (show m < 2147483648 by omega), zOne_f hx]
          exact if_pos rfl
        · rw [if_neg (by rw [s3]; exact n10), b_inI, Option.bind_some, zOne_f (by rw [e64 _ s5, l0]; omega)]
          exact if_pos rfl
  · refine zAns.q I (-2) ⟨J, ?_, zFrC.rf⟩ (fun J1 I1 ti => ⟨J1, ?_, zFrR.rf, ti⟩)
    · unfold F_X6_cell
      rw [b_sheetAt, if_neg hv]
      rfl
    · unfold F_X7_cell
      rw [r_isSheet, Option.bind_some, zOne_f hv]
      exact if_pos rfl
/-- a call that changes nothing -/
theorem zAns.no {α : Type} {F R : zzJ → Option (α × zzJ)} {v : α} (I : zInv L xs E s t n z J) (h1 : F J = some (v, J)) (h2 : R J = some (v, J)) : zAns L xs F R J := ⟨v, J, J, h1, h2, E, s, t, n, z, I, I.1⟩
/-- what the reference's loop of copy makes of its items -/
theorem r_copy_up {i j p q c : Nat} {J0 : zzJ} (h1 : 40 * i + p + c ≤ 160) (h2 : 40 * j + q + c ≤ 160) (hl : i < 4) (hl2 : j < 4) (hs : 40 * i + p ≥ 40 * j + q ∨ 40 * i + p + c ≤ 40 * j + q) : ∃ J2, F_X7_copy_121 4096 (nI i) (nI p) (nI j) (nI q) (nI c) 0 0 J0 = some (nI c, J2) ∧ J2.1 = J0.1 ∧ (∀ b, b ≠ 65 → J2.2 b = J0.2 b) ∧ ∀ k, J2.2 65 k = if 40 * j + q ≤ k ∧ k < 40 * j + q + c then J0.2 65 (40 * i + p + (k - (40 * j + q))) else J0.2 65 k := by
  refine zLoop (G := fun f (a : Nat × zzJ) => F_X7_copy_121 f (nI i) (nI p) (nI j) (nI q) (nI c) 0 (nI a.1) a.2) (P := fun e a => a.1 = e ∧ a.2.1 = J0.1 ∧ (∀ b, b ≠ 65 → a.2.2 b = J0.2 b) ∧ ∀ k, a.2.2 65 k = if 40 * j + q ≤ k ∧ k < 40 * j + q + e then J0.2 65 (40 * i + p + (k - (40 * j + q))) else J0.2 65 k) (Q := fun r => ∃ J2, r = some (nI c, J2) ∧ J2.1 = J0.1 ∧ (∀ b, b ≠ 65 → J2.2 b = J0.2 b) ∧ ∀ k, J2.2 65 k = if 40 * j + q ≤ k ∧ k < 40 * j + q + c then J0.2 65 (40 * i + p + (k - (40 * j + q))) else J0.2 65 k) (s := c) ?_ c 0 (0, J0) (by omega) ⟨rfl, rfl, fun _ _ => rfl, fun k => by rw [if_neg (by omega)]⟩ 4096 (by omega)
  rintro e ⟨e2, J⟩ he ⟨rfl, a, b, g⟩
  dsimp only at he a b g ⊢
  by_cases h : e2 < c
  · right
    refine ⟨h, (e2 + 1, wI J 65 (40 * j + q + e2) (J.2 65 (40 * i + p + e2))), ⟨rfl, a, fun d hd => (wI_ne hd).trans (b d hd), fun k => ?_⟩, fun f => ?_⟩
    · dsimp only
      rw [wI_get]
      by_cases hk : k = 40 * j + q + e2
      · rw [if_pos ⟨rfl, hk⟩, if_pos (by omega), g, if_neg (by omega)]
        rw [show k - (40 * j + q) = e2 by omega]
      · rw [if_neg (fun z => hk z.2), g]
        by_cases h3 : 40 * j + q ≤ k ∧ k < 40 * j + q + e2
        · rw [if_pos h3, if_pos (by omega)]
        · rw [if_neg h3, if_neg (by omega)]
    · rw [F_X7_copy_121, if_pos ((i_lts (by omega) (by omega)).2 h), if_pos rfl]
      unfold F_X7_copy_145
      rw [ix_40, ix_40, nI_add, nI_add, if_pos (i_ix (by omega) (by omega)), if_pos (i_ix (by omega) (by omega)), i_cm (by omega), i_cm (by omega), ← nI_succ]
  · left
    refine ⟨_, ⟨J, rfl, a, b, fun q => ?_⟩, fun f => ?_⟩
    · rw [g, show e2 = c by omega]
    · rw [F_X7_copy_121, if_neg (fun q => h ((i_lts (by omega) (by omega)).1 q))]
theorem r_copy_dn {i j p q c : Nat} {J0 : zzJ} (h1 : 40 * i + p + c ≤ 160) (h2 : 40 * j + q + c ≤ 160) (hl : i < 4) (hl2 : j < 4) (hs : 40 * i + p ≤ 40 * j + q) : ∃ J2, F_X7_copy_121 4096 (nI i) (nI p) (nI j) (nI q) (nI c) 1 0 J0 = some (nI c, J2) ∧ J2.1 = J0.1 ∧ (∀ b, b ≠ 65 → J2.2 b = J0.2 b) ∧ ∀ k, J2.2 65 k = if 40 * j + q ≤ k ∧ k < 40 * j + q + c then J0.2 65 (40 * i + p + (k - (40 * j + q))) else J0.2 65 k := by
  refine zLoop (G := fun f (a : Nat × zzJ) => F_X7_copy_121 f (nI i) (nI p) (nI j) (nI q) (nI c) 1 (nI a.1) a.2) (P := fun e a => a.1 = e ∧ a.2.1 = J0.1 ∧ (∀ b, b ≠ 65 → a.2.2 b = J0.2 b) ∧ ∀ k, a.2.2 65 k = if 40 * j + q + (c - e) ≤ k ∧ k < 40 * j + q + c then J0.2 65 (40 * i + p + (k - (40 * j + q))) else J0.2 65 k) (Q := fun r => ∃ J2, r = some (nI c, J2) ∧ J2.1 = J0.1 ∧ (∀ b, b ≠ 65 → J2.2 b = J0.2 b) ∧ ∀ k, J2.2 65 k = if 40 * j + q ≤ k ∧ k < 40 * j + q + c then J0.2 65 (40 * i + p + (k - (40 * j + q))) else J0.2 65 k) (s := c) ?_ c 0 (0, J0) (by omega) ⟨rfl, rfl, fun _ _ => rfl, fun k => by rw [if_neg (by omega)]⟩ 4096 (by omega)
  rintro e ⟨e2, J⟩ he ⟨rfl, a, b, g⟩
  dsimp only at he a b g ⊢
  by_cases h : e2 < c
  · right
    refine ⟨h, (e2 + 1, wI J 65 (40 * j + q + (c - 1 - e2)) (J.2 65 (40 * i + p + (c - 1 - e2)))), ⟨rfl, a, fun d hd => (wI_ne hd).trans (b d hd), fun k => ?_⟩, fun f => ?_⟩
    · dsimp only
      rw [wI_get]
      by_cases hk : k = 40 * j + q + (c - 1 - e2)
      · rw [if_pos ⟨rfl, hk⟩, if_pos (by omega), g, if_neg (by omega)]
        rw [show k - (40 * j + q) = c - 1 - e2 by omega]
      · rw [if_neg (fun z => hk z.2), g]
        by_cases h3 : 40 * j + q + (c - e2) ≤ k ∧ k < 40 * j + q + c
        · rw [if_pos h3, if_pos (by omega)]
        · rw [if_neg h3, if_neg (by omega)]
    · rw [F_X7_copy_121, if_pos ((i_lts (by omega) (by omega)).2 h), if_neg n10]
      have ec : nI c - 1 - nI e2 = nI (c - 1 - e2) := by rw [show (1 : Int32) = nI 1 from rfl, pk_sub (by omega), pk_sub (by omega)]
      unfold F_X7_copy_145
      rw [ec, ix_40, ix_40, nI_add, nI_add, if_pos (i_ix (by omega) (by omega)), if_pos (i_ix (by omega) (by omega)), i_cm (by omega), i_cm (by omega), ← nI_succ]
  · left
    refine ⟨_, ⟨J, rfl, a, b, fun k => ?_⟩, fun f => ?_⟩
    · rw [g, show c - e2 = 0 by omega]; rfl
    · rw [F_X7_copy_121, if_neg (fun q => h ((i_lts (by omega) (by omega)).1 q))]
end SC
