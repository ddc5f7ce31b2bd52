/-! copy, passengers -/
section SD
variable {L : Nat} {xs : Nat → Int32} {E : zEv2} {s t n z : Nat} {J J1 J2 : zzJ} {w w' : zVw} {x y v u q : Int32} {a r i : Nat}
theorem sub_lt {m : Nat} (hm : m ≤ 40) (hy : 0 ≤ y.toInt) : (nI m - y).toInt = (m : Int) - y.toInt := by
  have := fb_rng y
  rw [fb_subI (by rw [i_nI (by omega)]; omega) (by rw [i_nI (by omega)]; omega), i_nI (by omega)]
theorem b_hasRun {m : Nat} (h : i < 4) (hs : J.2 (38 + 2 * i) 1 = nI m) (hm : m ≤ 40) : F_X4_hasRun (38 + 2 * i) x y J = some (zOne (0 ≤ y.toInt ∧ 0 ≤ x.toInt ∧ x.toInt + y.toInt ≤ m), J) := by
  unfold F_X4_hasRun zOne
  rw [if_pos (sh_k h).1, hs]
  have e0 : (0 : Int32).toInt = 0 := rfl
  by_cases h1 : y.toInt < 0
  · rw [if_pos (by rw [i_lt]; omega), if_neg (by omega)]
  · rw [if_neg (by rw [i_lt]; omega)]
    by_cases h2 : x.toInt < 0
    · rw [if_pos (by rw [i_lt]; omega), if_neg (by omega)]
    · rw [if_neg (by rw [i_lt]; omega)]
      by_cases h3 : (m : Int) - y.toInt < x.toInt
      · rw [if_pos (by rw [i_lt, sub_lt hm (by omega)]; omega), if_neg (by omega)]
      · rw [if_neg (by rw [i_lt, sub_lt hm (by omega)]; omega), if_pos (by omega)]
theorem c_copy (I : zInv L xs E s t n z J) : zAns L xs (F_X6_copy v x u y q) (F_X7_copy v x u y q) J := by
  have e0 : (0 : Int32).toInt = 0 := rfl
  by_cases hv : 0 ≤ v.toInt ∧ v.toInt < 4
  · obtain ⟨i, hi0, rfl⟩ := i_upto (x := v) (m := 3) (by omega) (by omega)
    have hi : i < 4 := by omega
    have hxi : zzIx (nI i) 4 := i_ix (by omega) (by omega)
    have hci : (nI i).toNatClampNeg = i := i_cm (by omega)
    by_cases hu : 0 ≤ u.toInt ∧ u.toInt < 4
    · obtain ⟨j, hj0, rfl⟩ := i_upto (x := u) (m := 3) (by omega) (by omega)
      have hj : j < 4 := by omega
      have hxj : zzIx (nI j) 4 := i_ix (by omega) (by omega)
      have hcj : (nI j).toNatClampNeg = j := i_cm (by omega)
      have cl : ∀ r : Option (Int32 × zzJ), Option.bind (F_X4_isMissing (38 + 2 * i) J) (fun q8 => (if q8.1 = (0 : Int32) then (Option.bind (F_X4_isMissing (38 + 2 * j) q8.2) fun q11 => (if q11.1 = (0 : Int32) then (if (q11.2.2 (38 + 2 * i) 0) = (q11.2.2 (38 + 2 * j) 0) then (Option.bind (F_X4_hasRun (38 + 2 * i) x q q11.2) fun q14 => (if q14.1 = (0 : Int32) then some ((-12 : Int32), q14.2) else (Option.bind (F_X4_hasRun (38 + 2 * j) y q q14.2) fun q16 => (if q16.1 = (0 : Int32) then some ((-12 : Int32), q16.2) else (if ¬ x < 0 then (if ¬ y < 0 then (if ¬ q < 0 then (if x.toNatClampNeg + q.toNatClampNeg ≤ 40 then (if y.toNatClampNeg + q.toNatClampNeg ≤ 40 then some (q, (wC q16.2 (39 + 2 * j) (va_cpy (q16.2.2 (39 + 2 * i)) (q16.2.2 (39 + 2 * j)) x.toNatClampNeg y.toNatClampNeg q.toNatClampNeg))) else none) else none) else none) else none) else none))))) else some ((-13 : Int32), q11.2)) else some ((-11 : Int32), q11.2))) else some ((-11 : Int32), q8.2))) = r → F_X6_copy (nI i) x (nI j) y q J = r := by
        intro r hr
        rw [← hr]
        unfold F_X6_copy
        rw [b_sheet hi, Option.bind_some, b_sheet hj, Option.bind_some]
        simp only [(sh_k hi).1, (sh_k hj).1, (sh_k hi).2.1, (sh_k hj).2.1, (sh_k hi).2.2.1, (sh_k hj).2.2.1, (sh_k hi).2.2.2, (sh_k hj).2.2.2, if_true, Option.bind_some]
      have rf : ∀ (J1 : zzJ) (r : Option (Int32 × zzJ)), (if (J1.2 62 i) = (0 : Int32) then some ((-11 : Int32), J1) else (if (J1.2 62 j) = (0 : Int32) then some ((-11 : Int32), J1) else (if (J1.2 63 i) = (J1.2 63 j) then (if q < (0 : Int32) then some ((-12 : Int32), J1) else (if x < (0 : Int32) then some ((-12 : Int32), J1) else (if y < (0 : Int32) then some ((-12 : Int32), J1) else (if ((J1.2 64 i) - q) < x then some ((-12 : Int32), J1) else (if ((J1.2 64 j) - q) < y then some ((-12 : Int32), J1) else (if nI i = nI j then (if x < y then F_X7_copy_121 4096 (nI i) x (nI j) y q (1 : Int32) (0 : Int32) J1 else F_X7_copy_121 4096 (nI i) x (nI j) y q (0 : Int32) (0 : Int32) J1) else F_X7_copy_121 4096 (nI i) x (nI j) y q (0 : Int32) (0 : Int32) J1)))))) else some ((-13 : Int32), J1)))) = r → F_X7_copy (nI i) x (nI j) y q J1 = r := by
        intro J1 r hr
        rw [← hr]
        unfold F_X7_copy
        rw [r_isSheet, Option.bind_some, zOne_t hv]
        refine (if_neg n10).trans ?_
        rw [r_isSheet, Option.bind_some, zOne_t hu]
        refine (if_neg n10).trans ?_
        simp only [if_pos hxi, if_pos hxj, hci, hcj]
      rcases I.2.2.2.2.2 i hi with ⟨p, p2⟩ | ⟨d, m, hd, hm, s1, s2, s3, s4, s5, s6⟩
      · refine zAns.no (v := -11) I (cl _ ?_) (rf _ _ ?_)
        · rw [b_missing hi, Option.bind_some, zOne_t p]
          exact if_neg n10
        · rw [if_pos p2]
      · have nmi : ¬ J.2 (38 + 2 * i) 0 = -1 := by rw [s1]; exact i_nm1 (by omega)
        rcases I.2.2.2.2.2 j hj with ⟨p, p2⟩ | ⟨d', m', hd', hm', t1, t2, t3, t4, t5, t6⟩
        · refine zAns.no (v := -11) I (cl _ ?_) (rf _ _ ?_)
          · rw [b_missing hi, Option.bind_some, zOne_f nmi]
            refine (if_pos rfl).trans ?_
            dsimp only
            rw [b_missing hj, Option.bind_some, zOne_t p]
            exact if_neg n10
          · rw [if_neg (by rw [s3]; exact n10), if_pos p2]
        · have nmj : ¬ J.2 (38 + 2 * j) 0 = -1 := by rw [t1]; exact i_nm1 (by omega)
          have cl2 : ∀ r : Option (Int32 × zzJ), (if nI d = nI d' then (Option.bind (F_X4_hasRun (38 + 2 * i) x q J) fun q14 => (if q14.1 = (0 : Int32) then some ((-12 : Int32), q14.2) else (Option.bind (F_X4_hasRun (38 + 2 * j) y q q14.2) fun q16 => (if q16.1 = (0 : Int32) then some ((-12 : Int32), q16.2) else (if ¬ x < 0 then (if ¬ y < 0 then (if ¬ q < 0 then (if x.toNatClampNeg + q.toNatClampNeg ≤ 40 then (if y.toNatClampNeg + q.toNatClampNeg ≤ 40 then some (q, (wC q16.2 (39 + 2 * j) (va_cpy (q16.2.2 (39 + 2 * i)) (q16.2.2 (39 + 2 * j)) x.toNatClampNeg y.toNatClampNeg q.toNatClampNeg))) else none) else none) else none) else none) else none))))) else some ((-13 : Int32), J)) = r → F_X6_copy (nI i) x (nI j) y q J = r := by
            intro r hr
            refine cl _ ?_
            rw [← hr, b_missing hi, Option.bind_some, zOne_f nmi]
            refine (if_pos rfl).trans ?_
            dsimp only
            rw [b_missing hj, Option.bind_some, zOne_f nmj]
            refine (if_pos rfl).trans ?_
            dsimp only
            rw [s1, t1]
          by_cases hdd : d = d'
          · subst hdd
            by_cases hok : (0 ≤ q.toInt ∧ 0 ≤ x.toInt ∧ x.toInt + q.toInt ≤ m) ∧ 0 ≤ q.toInt ∧ 0 ≤ y.toInt ∧ y.toInt + q.toInt ≤ m'
            · obtain ⟨c, hc, rfl⟩ := i_upto (x := q) (m := 40) (by omega) (by omega)
              obtain ⟨p, hp, rfl⟩ := i_upto (x := x) (m := 40) (by omega) (by omega)
              obtain ⟨p', hp', rfl⟩ := i_upto (x := y) (m := 40) (by omega) (by omega)
              have hok2 := hok
              rw [i_nI (by omega), i_nI (by omega), i_nI (by omega)] at hok2
              have l0 : ∀ k : Nat, k ≤ 40 → ¬ nI k < (0 : Int32) := fun k hk => by rw [i_lt, i_nI (by omega)]; omega
              have hcc : (nI c).toNatClampNeg = c := i_cm (by omega)
              have hcp : (nI p).toNatClampNeg = p := i_cm (by omega)
              have hcp' : (nI p').toNatClampNeg = p' := i_cm (by omega)
              generalize hJ1 : wC J (39 + 2 * j) (va_cpy (J.2 (39 + 2 * i)) (J.2 (39 + 2 * j)) p p' c) = J1
              have o1 : ∀ b, b ≠ 39 + 2 * j → J1.2 b = J.2 b := fun b hb => by rw [← hJ1]; exact wC_ne hb
              have k1 : ∀ k, J1.2 (39 + 2 * j) k = if p' ≤ k ∧ k < p' + c then J.2 (39 + 2 * i) (p + (k - p')) else J.2 (39 + 2 * j) k := fun k => by rw [← hJ1, wC_eq]; rfl
              have lp : ∃ J2, (if nI i = nI j then (if nI p < nI p' then F_X7_copy_121 4096 (nI i) (nI p) (nI j) (nI p') (nI c) (1 : Int32) (0 : Int32) J1 else F_X7_copy_121 4096 (nI i) (nI p) (nI j) (nI p') (nI c) (0 : Int32) (0 : Int32) J1) else F_X7_copy_121 4096 (nI i) (nI p) (nI j) (nI p') (nI c) (0 : Int32) (0 : Int32) J1) = some (nI c, J2) ∧ J2.1 = J1.1 ∧ (∀ b, b ≠ 65 → J2.2 b = J1.2 b) ∧ ∀ k, J2.2 65 k = if 40 * j + p' ≤ k ∧ k < 40 * j + p' + c then J1.2 65 (40 * i + p + (k - (40 * j + p'))) else J1.2 65 k := by
                by_cases hij : i = j
                · subst hij
                  rw [if_pos rfl]
                  by_cases hpp : p < p'
                  · rw [if_pos ((i_lts (by omega) (by omega)).2 hpp)]
                    exact r_copy_dn (by omega) (by omega) hi hj (by omega)
                  · rw [if_neg (fun e => hpp ((i_lts (by omega) (by omega)).1 e))]
                    exact r_copy_up (by omega) (by omega) hi hj (by omega)
                · rw [if_neg (fun e => hij (i_inj (by omega) (by omega) e))]
                  exact r_copy_up (by omega) (by omega) hi hj (by omega)
              obtain ⟨J2, e2, a2, b2, g2⟩ := lp
              refine ⟨nI c, J1, J2, cl2 _ ?_, rf _ _ ?_, E, s, t, n, z, ?_, zIA_of I.1 (by rw [← hJ1]; rfl) (o1 2000 (by omega))⟩
              · rw [if_pos rfl, b_hasRun hi s2 hm, Option.bind_some, zOne_t hok.1]
                refine (if_neg n10).trans ?_
                dsimp only
                rw [b_hasRun hj t2 hm', Option.bind_some, zOne_t hok.2]
                refine (if_neg n10).trans ?_
                rw [if_pos (l0 p hp), if_pos (l0 p' hp'), if_pos (l0 c hc), hcp, hcp', hcc, if_pos (by omega), if_pos (by omega), hJ1]
              · rw [o1 62 (by omega), o1 63 (by omega), o1 64 (by omega), s3, t3, s4, t4, s5, t5, if_neg n10, if_neg n10, if_pos rfl, if_neg (l0 c hc), if_neg (l0 p hp), if_neg (l0 p' hp'), if_neg (by rw [i_lt, sub_lt hm (by omega)]; omega), if_neg (by rw [i_lt, sub_lt hm' (by omega)]; omega)]
                exact e2
              · have o2 : ∀ b, b ≠ 65 → b ≠ 39 + 2 * j → J2.2 b = J.2 b := fun b h1 h2 => (b2 b h1).trans (o1 b h2)
                have g3 : ∀ k, J2.2 65 k = if 40 * j + p' ≤ k ∧ k < 40 * j + p' + c then J.2 65 (40 * i + p + (k - (40 * j + p'))) else J.2 65 k := fun k => by rw [g2, o1 65 (by omega)]
                refine inv_S I (a2.trans (by rw [← hJ1]; rfl)) (fun b hb => o2 b (by omega) (by omega)) (fun j' hj' => ?_)
                by_cases hjj : j' = j
                · subst hjj
                  right
                  refine ⟨d, m', hd, hm', ?_, ?_, ?_, ?_, ?_, fun k hk => ?_⟩
                  · rw [o2 _ (by omega) (by omega)]; exact t1
                  · rw [o2 _ (by omega) (by omega)]; exact t2
                  · rw [o2 _ (by omega) (by omega)]; exact t3
                  · rw [o2 _ (by omega) (by omega)]; exact t4
                  · rw [o2 _ (by omega) (by omega)]; exact t5
                  · rw [b2 _ (by omega), k1, g3]
                    by_cases hin : p' ≤ k ∧ k < p' + c
                    · rw [if_pos hin, if_pos (by omega), s6 _ (by omega), show 40 * i + p + (40 * j' + k - (40 * j' + p')) = 40 * i + (p + (k - p')) by omega]
                    · rw [if_neg hin, if_neg (by omega), t6 k hk]
                · refine iS_o ?_ ?_ ?_ ?_ ?_ (fun k hk => ?_) (I.2.2.2.2.2 j' hj')
                  · rw [o2 _ (by omega) (by omega)]
                  · rw [o2 _ (by omega) (by omega)]
                  · rw [o2 _ (by omega) (by omega)]
                  · rw [o2 _ (by omega) (by omega)]
                  · rw [o2 _ (by omega) (by omega)]
                  · rw [g3, if_neg (by omega)]
            · refine zAns.no (v := -12) I (cl2 _ ?_) (rf _ _ ?_)
              · rw [if_pos rfl, b_hasRun hi s2 hm, Option.bind_some]
                by_cases h1 : 0 ≤ q.toInt ∧ 0 ≤ x.toInt ∧ x.toInt + q.toInt ≤ m
                · rw [zOne_t h1]
                  refine (if_neg n10).trans ?_
                  dsimp only
                  rw [b_hasRun hj t2 hm', Option.bind_some, zOne_f (fun e => hok ⟨h1, e⟩)]
                  exact if_pos rfl
                · rw [zOne_f h1]
                  exact if_pos rfl
              · rw [if_neg (by rw [s3]; exact n10), if_neg (by rw [t3]; exact n10), if_pos (by rw [s4, t4]), s5, t5]
                by_cases h1 : q.toInt < 0
                · rw [if_pos (by rw [i_lt]; omega)]
                · rw [if_neg (by rw [i_lt]; omega)]
                  by_cases h2 : x.toInt < 0
                  · rw [if_pos (by rw [i_lt]; omega)]
                  · rw [if_neg (by rw [i_lt]; omega)]
                    by_cases h3 : y.toInt < 0
                    · rw [if_pos (by rw [i_lt]; omega)]
                    · rw [if_neg (by rw [i_lt]; omega)]
                      by_cases h4 : (m : Int) - q.toInt < x.toInt
                      · rw [if_pos (by rw [i_lt, sub_lt hm (by omega)]; omega)]
                      · rw [if_neg (by rw [i_lt, sub_lt hm (by omega)]; omega), if_pos (by rw [i_lt, sub_lt hm' (by omega)]; omega)]
          · have nd : ¬ nI d = nI d' := fun e => hdd (i_inj (by omega) (by omega) e)
            refine zAns.no (v := -13) I (cl2 _ ?_) (rf _ _ ?_)
            · rw [if_neg nd]
            · rw [if_neg (by rw [s3]; exact n10), if_neg (by rw [t3]; exact n10), if_neg (by rw [s4, t4]; exact nd)]
    · refine zAns.no (v := -2) I ?_ ?_
      · unfold F_X6_copy
        rw [b_sheet hi, Option.bind_some, b_sheetAt, if_neg hu]
        rfl
      · unfold F_X7_copy
        rw [r_isSheet, Option.bind_some, zOne_t hv]
        refine (if_neg n10).trans ?_
        rw [r_isSheet, Option.bind_some, zOne_f hu]
        exact if_pos rfl
  · refine zAns.no (v := -2) I ?_ ?_
    · unfold F_X6_copy
      rw [b_sheetAt, if_neg hv, Option.bind_some, b_sheetAt, Option.bind_some]
    · unfold F_X7_copy
      rw [r_isSheet, Option.bind_some, zOne_f hv]
      exact if_pos rfl
end SD
