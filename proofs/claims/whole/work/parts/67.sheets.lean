/-! sheets: the small methods; sheet, cell, copy -/
section SH
variable {L : Nat} {xs : Nat → Int32} {E : zEv2} {s t n z : Nat} {J J1 J2 : zzJ} {w w' : zVw} {x y v : Int32} {a r i : Nat}
theorem i4 {i : Nat} (h : i < 4) : i = 0 ∨ i = 1 ∨ i = 2 ∨ i = 3 := by omega
theorem b_sheetAt : F_X6_sheetAt x J = some (if 0 ≤ x.toInt ∧ x.toInt < 4 then some (38 + 2 * x.toInt.toNat) else none, J) := by
  unfold F_X6_sheetAt
  have e0 : (0 : Int32).toInt = 0 := rfl
  have e4 : (4 : Int32).toInt = 4 := rfl
  by_cases h : 0 ≤ x.toInt ∧ x.toInt < 4
  · obtain ⟨k, hk, rfl⟩ := i_upto (x := x) (m := 3) (by omega) (by omega)
    rw [if_pos h, if_neg (by rw [i_lt]; omega), if_pos (by rw [i_lt]; omega), if_pos (i_ix (by omega) (by omega)), i_cm (by omega), i_nI (by omega)]
    rcases i4 (show k < 4 by omega) with rfl | rfl | rfl | rfl <;> rfl
  · rw [if_neg h]
    by_cases h1 : x < 0
    · rw [if_pos h1]
    · rw [if_neg h1, if_neg (by rw [i_lt] at h1 ⊢; omega)]
theorem b_sheet (h : i < 4) : F_X6_sheetAt (nI i) J = some (some (38 + 2 * i), J) := by
  rw [b_sheetAt, if_pos (by rw [i_nI (by omega)]; omega), i_nI (by omega)]
  rfl
theorem sh_k (h : i < 4) : zKd (38 + 2 * i) = 4 ∧ zMR (38 + 2 * i) 2 = some (39 + 2 * i) ∧ zKd (39 + 2 * i) = 8 ∧ zSz (39 + 2 * i) = 40 := by
  rcases i4 h with rfl | rfl | rfl | rfl <;> exact ⟨rfl, rfl, rfl, rfl⟩
theorem b_missing (h : i < 4) : F_X4_isMissing (38 + 2 * i) J = some (zOne (J.2 (38 + 2 * i) 0 = -1), J) := by
  unfold F_X4_isMissing zOne
  rw [if_pos (sh_k h).1]
  by_cases h1 : J.2 (38 + 2 * i) 0 = -1
  · rw [if_pos h1, if_pos h1]
  · rw [if_neg h1, if_neg h1]
theorem b_shas (h : i < 4) : F_X4_has (38 + 2 * i) x J = some (zOne (0 ≤ x.toInt ∧ x.toInt < (J.2 (38 + 2 * i) 1).toInt), J) := by
  unfold F_X4_has zOne
  rw [if_pos (sh_k h).1]
  simp only [i_lt, show (0 : Int32).toInt = 0 from rfl]
  by_cases h1 : x.toInt < 0
  · rw [if_pos h1, if_neg (by omega)]
  · rw [if_neg h1]
    by_cases h2 : x.toInt < (J.2 (38 + 2 * i) 1).toInt
    · rw [if_pos h2, if_pos (by omega)]
    · rw [if_neg h2, if_neg (by omega)]
theorem b_item (h : i < 4) : F_X4_item (38 + 2 * i) x J = some (zIt (J.2 (39 + 2 * i)) 40 x 0, J) := by
  unfold F_X4_item
  rw [if_pos (sh_k h).1, (sh_k h).2.1, Option.bind_some, b_itemAt (sh_k h).2.2.1 (sh_k h).2.2.2 (by omega)]
  rfl
def zCast (d : Nat) (v : Int32) : Int32 := if d = 0 then v.toInt8.toInt32 else if d = 1 then v.toInt16.toInt32 else v
theorem b_write {d k : Nat} (h : i < 4) (hd : d < 3) (hs : J.2 (38 + 2 * i) 0 = nI d) (hk : k < 40) : F_X4_write (38 + 2 * i) (nI k) v J = some (wI J (39 + 2 * i) k (zCast d v)) := by
  have p : ∀ u, F_X6_put (39 + 2 * i) (nI k) u J = some (wI J (39 + 2 * i) k u) := fun u => by
    rw [b_put (sh_k h).2.2.1 (sh_k h).2.2.2 (by omega), if_pos (by rw [i_nI (by omega)]; omega), i_nI (by omega)]
    rfl
  unfold F_X4_write zCast
  rw [if_pos (sh_k h).1, (sh_k h).2.1, Option.bind_some, hs, p, p, p]
  rcases (show d = 0 ∨ d = 1 ∨ d = 2 by omega) with rfl | rfl | rfl <;> rfl
theorem b_become (h : i < 4) : ∃ J1, F_X4_become (38 + 2 * i) x y J = some J1 ∧ J1.1 = J.1 ∧ J1.2 (38 + 2 * i) 0 = x ∧ J1.2 (38 + 2 * i) 1 = y ∧ (∀ k, k < 40 → J1.2 (39 + 2 * i) k = 0) ∧ ∀ b, b ≠ 38 + 2 * i → b ≠ 39 + 2 * i → J1.2 b = J.2 b := by
  obtain ⟨J1, e1, a1, b1, c1⟩ := b_fill (v := 0) (J := wI (wI J (38 + 2 * i) 0 x) (38 + 2 * i) 1 y) (sh_k h).2.2.1 (sh_k h).2.2.2 (by omega)
  refine ⟨J1, ?_, a1, ?_, ?_, fun k hk => by rw [c1, if_pos hk], fun b h1 h2 => by rw [b1 b h2, wI_ne h1, wI_ne h1]⟩
  · unfold F_X4_become
    rw [if_pos (sh_k h).1, (sh_k h).2.1, Option.bind_some, e1]
    rfl
  · rw [b1 _ (by omega)]; simp [wI_get]
  · rw [b1 _ (by omega)]; simp [wI_get]
/-- the sheets alone have changed, on both sides -/
theorem inv_S (I : zInv L xs E s t n z J) (h1 : J2.1 = J.1) (h : ∀ b, (b < 38 ∨ (45 < b ∧ b < 62) ∨ 65 < b) → J2.2 b = J.2 b) (S : ∀ i, i < 4 → zIS J2 i) : zInv L xs E s t n z J2 := by
  obtain ⟨a, b, c, d, e, f⟩ := I
  exact ⟨⟨by rw [h1]; exact a.1, by rw [h 2000 (by omega)]; exact a.2⟩, iB_c (fun b _ _ => h b (by omega)) (tieJ (fun b _ _ => h b (by omega)) (fun k _ => by rw [h 46 (by omega)]) b.2.1) b, iT_c (h _ (by omega)) (h _ (by omega)) (h _ (by omega)) (by rw [h 46 (by omega)]) (h _ (by omega)) (h _ (by omega)) c, iP_c (h _ (by omega)) (h _ (by omega)) (by rw [h 46 (by omega)]) (h _ (by omega)) d, iK_c (h _ (by omega)) (h _ (by omega)) (fun b _ _ => h b (by omega)) (fun b _ _ => h b (by omega)) (fun k _ => by rw [h 46 (by omega)]) e, S⟩
theorem iS_o {j : Nat} (h38 : J2.2 (38 + 2 * j) = J.2 (38 + 2 * j)) (h39 : J2.2 (39 + 2 * j) = J.2 (39 + 2 * j)) (h62 : J2.2 62 j = J.2 62 j) (h63 : J2.2 63 j = J.2 63 j) (h64 : J2.2 64 j = J.2 64 j) (h65 : ∀ k, k < 40 → J2.2 65 (40 * j + k) = J.2 65 (40 * j + k)) (hs : zIS J j) : zIS J2 j := by
  unfold zIS
  rw [h38, h39, h62, h63, h64]
  refine hs.imp id (fun ⟨d, m, a, b, c, e, f, g, h, k⟩ => ⟨d, m, a, b, c, e, f, g, h, fun q hq => ?_⟩)
  rw [h65 q (by omega)]
  exact k q hq
theorem r_isSheet : F_X7_isSheet x J = some (zOne (0 ≤ x.toInt ∧ x.toInt < 4), J) := by
  have e0 : (0 : Int64).toInt = 0 := rfl
  have e1 : (3 : Int64).toInt = 3 := rfl
  unfold F_X7_isSheet
  simp only [b_inI, Option.bind_some, zOne_01, if_true, e1, e0]
  congr 2
  unfold zOne
  by_cases h : 0 ≤ x.toInt ∧ x.toInt < 4
  · rw [if_pos h, if_pos (by omega)]
  · rw [if_neg h, if_neg (by omega)]
theorem ix_40 {k : Nat} : (40 : Int32) * nI i + nI k = nI (40 * i + k) := by
  rw [show (40 : Int32) = nI 40 from rfl, pk_mul, nI_add]
theorem r_sheet77 {m : Nat} (hi : i < 4) (hm : m ≤ 40) (hx : ¬ x < 0) (J0 : zzJ) : ∃ J2, F_X7_sheet_77 4096 (nI i) x (nI m) 0 J0 = some (1, J2) ∧ J2.1 = J0.1 ∧ (∀ b, b ≠ 65 → J2.2 b = J0.2 b) ∧ ∀ q, J2.2 65 q = if 40 * i ≤ q ∧ q < 40 * i + m then 0 else J0.2 65 q := by
  refine zLoop (G := fun f (a : Nat × zzJ) => F_X7_sheet_77 f (nI i) x (nI m) (nI a.1) a.2) (P := fun k a => a.1 = k ∧ a.2.1 = J0.1 ∧ (∀ b, b ≠ 65 → a.2.2 b = J0.2 b) ∧ ∀ q, a.2.2 65 q = if 40 * i ≤ q ∧ q < 40 * i + k then 0 else J0.2 65 q) (Q := fun r => ∃ J2, r = some (1, J2) ∧ J2.1 = J0.1 ∧ (∀ b, b ≠ 65 → J2.2 b = J0.2 b) ∧ ∀ q, J2.2 65 q = if 40 * i ≤ q ∧ q < 40 * i + m then 0 else J0.2 65 q) (s := m) ?_ m 0 (0, J0) (by omega) ⟨rfl, rfl, fun _ _ => rfl, fun q => by rw [if_neg (by omega)]⟩ 4096 (by omega)
  rintro k ⟨k2, J⟩ hk ⟨rfl, a, b, c⟩
  dsimp only at hk a b c ⊢
  by_cases h : k2 < m
  · right
    refine ⟨h, (k2 + 1, wI J 65 (40 * i + k2) 0), ⟨rfl, a, fun d hd => (wI_ne hd).trans (b d hd), fun q => ?_⟩, fun f => ?_⟩
    · dsimp only
      rw [wI_get, c]
      by_cases hq : q = 40 * i + k2
      · rw [if_pos ⟨rfl, hq⟩, if_pos (by omega)]
      · rw [if_neg (fun z => hq z.2)]
        by_cases h3 : 40 * i ≤ q ∧ q < 40 * i + k2
        · rw [if_pos h3, if_pos (by omega)]
        · rw [if_neg h3, if_neg (by omega)]
    · rw [F_X7_sheet_77, if_pos ((i_lts (by omega) (by omega)).2 h), if_neg hx, ix_40, if_pos (i_ix (by omega) (by omega)), i_cm (by omega), ← nI_succ]
  · left
    refine ⟨_, ⟨J, rfl, a, b, fun q => ?_⟩, fun f => ?_⟩
    · rw [c, show k2 = m by omega]
    · rw [F_X7_sheet_77, if_neg (fun q => h ((i_lts (by omega) (by omega)).1 q))]
theorem r_sheet {d m : Nat} (hi : i < 4) (hd : d < 3) (hm : m ≤ 40) : ∃ J2, F_X7_sheet (nI i) (nI d) (nI m) J = some (1, J2) ∧ J2.1 = J.1 ∧ (∀ b, (b < 62 ∨ 65 < b) → J2.2 b = J.2 b) ∧ (∀ j, J2.2 62 j = if j = i then 1 else J.2 62 j) ∧ (∀ j, J2.2 63 j = if j = i then nI d else J.2 63 j) ∧ (∀ j, J2.2 64 j = if j = i then nI m else J.2 64 j) ∧ ∀ q, J2.2 65 q = if 40 * i ≤ q ∧ q < 40 * i + m then 0 else J.2 65 q := by
  have hd0 : ¬ nI d < (0 : Int32) := by rw [i_lt, i_nI (by omega)]; show ¬ (d : Int) < 0; omega
  have hm0 : ¬ nI m < (0 : Int32) := by rw [i_lt, i_nI (by omega)]; show ¬ (m : Int) < 0; omega
  have hm1 : ¬ (40 : Int32) < nI m := by rw [i_lt, i_nI (by omega)]; show ¬ (40 : Int) < m; omega
  have hx4 : zzIx (nI i) 4 := i_ix (by omega) (by omega)
  have hc : (nI i).toNatClampNeg = i := i_cm (by omega)
  obtain ⟨J2, e, a, b, c⟩ := r_sheet77 (m := m) hi hm hd0 (wI (wI (wI J 62 i 1) 63 i (nI d)) 64 i (nI m))
  have g : ∀ (J' : zzJ) (p i : Nat) (v : Int32) (j : Nat), (wI J' p i v).2 p j = if j = i then v else J'.2 p j := fun J' p i v j => by
    rw [wI_get]
    by_cases hj : j = i
    · rw [if_pos ⟨rfl, hj⟩, if_pos hj]
    · rw [if_neg (fun q => hj q.2), if_neg hj]
  refine ⟨J2, ?_, a, fun p hp => by rw [b p (by omega), wI_ne (by omega), wI_ne (by omega), wI_ne (by omega)], fun j => by rw [b 62 (by omega), wI_ne (by omega), wI_ne (by omega), g], fun j => by rw [b 63 (by omega), wI_ne (by omega), g, wI_ne (by omega)], fun j => by rw [b 64 (by omega), g, wI_ne (by omega), wI_ne (by omega)], fun q => by rw [c]; rfl⟩
  unfold F_X7_sheet
  rw [r_isSheet, Option.bind_some, zOne_t (by rw [i_nI (by omega)]; omega)]
  refine (if_neg (by first | exact n10 | decide)).trans ?_
  rw [b_inI, Option.bind_some, zOne_t (by rw [i_nI (by omega)]; have e1 : (-1 : Int64).toInt = -1 := rfl; have e2 : (2 : Int64).toInt = 2 := rfl; omega)]
  refine (if_neg (by first | exact n10 | decide)).trans ?_
  rw [if_neg hd0, if_neg hm1]
  unfold F_X7_sheet_34 F_X7_sheet_45 F_X7_sheet_59
  rw [if_neg hd0, if_neg hm0, if_neg hd0, if_pos hx4, if_pos (Or.inr rfl), if_pos hx4, if_pos hx4, hc]
  exact e
theorem c_sheet (I : zInv L xs E s t n z J) : zAns L xs (F_X6_sheet v x y) (F_X7_sheet v x y) J := by
  have em : (-1 : Int32).toInt = -1 := rfl
  have e2 : (2 : Int32).toInt = 2 := rfl
  have e40 : (40 : Int32).toInt = 40 := rfl
  have e0 : (0 : Int32).toInt = 0 := rfl
  have m1 : (-1 : Int64).toInt = -1 := rfl
  have m2 : (2 : Int64).toInt = 2 := rfl
  by_cases hv : 0 ≤ v.toInt ∧ v.toInt < 4
  · obtain ⟨i, hi0, rfl⟩ := i_upto (x := v) (m := 3) (by omega) (by omega)
    have hi : i < 4 := by omega
    have hx4 : zzIx (nI i) 4 := i_ix (by omega) (by omega)
    have hc : (nI i).toNatClampNeg = i := i_cm (by omega)
    by_cases hx : -1 ≤ x.toInt ∧ x.toInt ≤ 2
    · have c1 : ¬ x < (-1 : Int32) := by rw [i_lt]; omega
      have c2 : ¬ (2 : Int32) < x := by rw [i_lt]; omega
      have rf : ∀ (J1 : zzJ) (q : Option (Int32 × zzJ)), (if x < (0 : Int32) then F_X7_sheet_34 (nI i) x y J1 else (if (40 : Int32) < y then some ((-2 : Int32), J1) else F_X7_sheet_34 (nI i) x y J1)) = q → F_X7_sheet (nI i) x y J1 = q := by
        intro J1 q hq
        unfold F_X7_sheet
        rw [r_isSheet, Option.bind_some, zOne_t hv]
        refine (if_neg (by first | exact n10 | decide)).trans ?_
        rw [b_inI, Option.bind_some, zOne_t (by omega)]
        exact (if_neg (by first | exact n10 | decide)).trans hq
      by_cases hx1 : x = -1
      · subst hx1
        obtain ⟨J1, e1, a1, b1, c1', d1, f1⟩ := b_become (J := J) (x := -1) (y := 0) hi
        have rr : F_X7_sheet_77 4096 (nI i) (-1) y 0 (wI (wI (wI J1 62 i 0) 63 i (-1)) 64 i y) = some (1, wI (wI (wI J1 62 i 0) 63 i (-1)) 64 i y) := by
          rw [F_X7_sheet_77]
          split
          · rfl
          · rfl
        refine ⟨1, J1, wI (wI (wI J1 62 i 0) 63 i (-1)) 64 i y, ?_, rf _ _ ?_, E, s, t, n, z, ?_, zIA_of I.1 a1 (f1 2000 (by omega) (by omega))⟩
        · unfold F_X6_sheet
          rw [b_sheet hi, Option.bind_some]
          dsimp only
          rw [if_neg (by first | exact n10 | decide), if_neg (by first | exact n10 | decide), if_pos rfl, if_pos (sh_k hi).1, e1]
          rfl
        · rw [if_pos (by decide)]
          unfold F_X7_sheet_34 F_X7_sheet_45 F_X7_sheet_59
          rw [if_pos (by decide), if_pos (by decide), if_pos hx4, if_pos (Or.inl rfl), if_pos hx4, if_pos hx4, hc]
          exact rr
        · refine inv_S I a1 (fun b hb => by rw [wI_ne (by omega), wI_ne (by omega), wI_ne (by omega), f1 b (by omega) (by omega)]) (fun j hj => ?_)
          by_cases hji : j = i
          · subst hji
            left
            refine ⟨?_, ?_⟩
            · rw [wI_ne (by omega), wI_ne (by omega), wI_ne (by omega)]; exact b1
            · simp [wI_get]
          · refine iS_o ?_ ?_ ?_ ?_ ?_ (fun k _ => ?_) (I.2.2.2.2.2 j hj)
            · rw [wI_ne (by omega), wI_ne (by omega), wI_ne (by omega), f1 _ (by omega) (by omega)]
            · rw [wI_ne (by omega), wI_ne (by omega), wI_ne (by omega), f1 _ (by omega) (by omega)]
            · rw [wI_ne (by omega), wI_ne (by omega), wI_get, if_neg (by omega), f1 _ (by omega) (by omega)]
            · rw [wI_ne (by omega), wI_get, if_neg (by omega), wI_ne (by omega), f1 _ (by omega) (by omega)]
            · rw [wI_get, if_neg (by omega), wI_ne (by omega), wI_ne (by omega), f1 _ (by omega) (by omega)]
            · rw [wI_ne (by omega), wI_ne (by omega), wI_ne (by omega), f1 _ (by omega) (by omega)]
      · have hx0 : 0 ≤ x.toInt := by
          have : ¬ x.toInt = -1 := fun e => hx1 (i_eq.2 (e.trans em.symm))
          omega
        have hxn : ¬ x < (0 : Int32) := by rw [i_lt]; omega
        by_cases hy : 0 ≤ y.toInt ∧ y.toInt ≤ 40
        · obtain ⟨d, hd, rfl⟩ := i_upto (x := x) (m := 2) (by omega) (by omega)
          obtain ⟨m, hm, rfl⟩ := i_upto (x := y) (m := 40) hy (by omega)
          obtain ⟨J1, e1, a1, b1, c1', d1, f1⟩ := b_become (J := J) (x := nI d) (y := nI m) hi
          obtain ⟨J2, e2, a2, b2, g62, g63, g64, g65⟩ := r_sheet (J := J1) (d := d) (m := m) hi (by omega) hm
          refine ⟨1, J1, J2, ?_, e2, E, s, t, n, z, ?_, zIA_of I.1 a1 (f1 2000 (by omega) (by omega))⟩
          · unfold F_X6_sheet
            rw [b_sheet hi, Option.bind_some]
            dsimp only
            rw [if_neg c1, if_neg c2, if_neg hx1, if_neg (by rw [i_lt]; omega), if_neg (by rw [i_lt]; omega), if_pos (sh_k hi).1, e1]
            rfl
          · refine inv_S I (a2.trans a1) (fun b hb => by rw [b2 b (by omega), f1 b (by omega) (by omega)]) (fun j hj => ?_)
            by_cases hji : j = i
            · subst hji
              right
              refine ⟨d, m, by omega, hm, ?_, ?_, ?_, ?_, ?_, fun k hk => ?_⟩
              · rw [b2 _ (by omega)]; exact b1
              · rw [b2 _ (by omega)]; exact c1'
              · rw [g62, if_pos rfl]
              · rw [g63, if_pos rfl]
              · rw [g64, if_pos rfl]
              · rw [g65, if_pos (by omega), b2 _ (by omega)]
                exact d1 k (by omega)
            · refine iS_o ?_ ?_ ?_ ?_ ?_ (fun k _ => ?_) (I.2.2.2.2.2 j hj)
              · rw [b2 _ (by omega), f1 _ (by omega) (by omega)]
              · rw [b2 _ (by omega), f1 _ (by omega) (by omega)]
              · rw [g62, if_neg hji, f1 _ (by omega) (by omega)]
              · rw [g63, if_neg hji, f1 _ (by omega) (by omega)]
              · rw [g64, if_neg hji, f1 _ (by omega) (by omega)]
              · rw [g65, if_neg (by omega), f1 _ (by omega) (by omega)]
        · by_cases hy2 : 40 < y.toInt
          · refine zAns.q I (-2) ⟨J, ?_, zFrC.rf⟩ (fun J1 I1 ti => ⟨J1, rf _ _ ?_, zFrR.rf, ti⟩)
            · unfold F_X6_sheet
              rw [b_sheet hi, Option.bind_some]
              dsimp only
              rw [if_neg c1, if_neg c2, if_neg hx1, if_pos (by rw [i_lt]; omega)]
            · rw [if_neg hxn, if_pos (by rw [i_lt]; omega)]
          · refine zAns.q I (-14) ⟨J, ?_, zFrC.rf⟩ (fun J1 I1 ti => ⟨J1, rf _ _ ?_, zFrR.rf, ti⟩)
            · unfold F_X6_sheet
              rw [b_sheet hi, Option.bind_some]
              dsimp only
              rw [if_neg c1, if_neg c2, if_neg hx1, if_neg (by rw [i_lt]; omega), if_pos (by rw [i_lt]; omega)]
            · rw [if_neg hxn, if_neg (by rw [i_lt]; omega)]
              unfold F_X7_sheet_34
              rw [if_neg hxn, if_pos (by rw [i_lt]; omega)]
    · refine zAns.q I (-2) ⟨J, ?_, zFrC.rf⟩ (fun J1 I1 ti => ⟨J1, ?_, zFrR.rf, ti⟩)
      · unfold F_X6_sheet
        rw [b_sheet hi, Option.bind_some]
        dsimp only
        by_cases h1 : x < (-1 : Int32)
        · rw [if_pos h1]
        · rw [if_neg h1, if_pos (by rw [i_lt] at h1 ⊢; omega)]
      · unfold F_X7_sheet
        rw [r_isSheet, Option.bind_some, zOne_t hv]
        refine (if_neg (by first | exact n10 | decide)).trans ?_
        rw [b_inI, Option.bind_some, zOne_f (by omega)]
        exact if_pos rfl
  · refine zAns.q I (-2) ⟨J, ?_, zFrC.rf⟩ (fun J1 I1 ti => ⟨J1, ?_, zFrR.rf, ti⟩)
    · unfold F_X6_sheet
      rw [b_sheetAt, if_neg hv]
      rfl
    · unfold F_X7_sheet
      rw [r_isSheet, Option.bind_some, zOne_f hv]
      exact if_pos rfl
end SH
