/-! the methods as functions, and that they are (written by wip/whole/gen2.py) -/
/-! X6_fillFrom -/
def F_X6_fillFrom (x0 : Nat) (x1 : Nat) (J : zzJ) : Option (zzJ) := (if 8 ≤ zKd x0 ∧ zKd x0 ≤ 10 then (if 8 ≤ zKd x1 ∧ zKd x1 ≤ 10 then (if (Int32.ofNat (zSz x0)) = (Int32.ofNat (zSz x1)) then (if 8 ≤ zKd x0 ∧ zKd x0 ≤ 10 then (if zKd x0 = 8 then (if zKd x1 = 8 then (if ¬ (Int32.ofNat (zSz x0)) < 0 then (if (0 : Int32).toNatClampNeg + (Int32.ofNat (zSz x0)).toNatClampNeg ≤ (zSz x1) then (if (0 : Int32).toNatClampNeg + (Int32.ofNat (zSz x0)).toNatClampNeg ≤ (zSz x0) then some (wC J x0 (va_cpy (J.2 x1) (J.2 x0) (0 : Int32).toNatClampNeg (0 : Int32).toNatClampNeg (Int32.ofNat (zSz x0)).toNatClampNeg)) else none) else none) else none) else none) else none) else none) else some J) else none) else none)
set_option maxRecDepth 100000 in
set_option maxHeartbeats 2000000 in
theorem G_X6_fillFrom {d : Nat} (hd : 0 ≤ d) (x0 : Nat) (x1 : Nat) (J : zzJ) (r : zzJ) (h : F_X6_fillFrom x0 x1 J = some r) : zzEv d 129 0 [.ref x0, .ref x1] [] (zK J) (none, zK r) := by
  unfold F_X6_fillFrom at h
  refine ev_aload_n zo_129_0 rfl rfl rfl rfl ?_
  obtain ⟨c1, h⟩ := zz_chk h
  refine ev_alen zo_129_1 c1 rfl ?_
  refine ev_aload_n zo_129_2 rfl rfl rfl rfl ?_
  obtain ⟨c2, h⟩ := zz_chk h
  refine ev_alen zo_129_3 c2 rfl ?_
  by_cases c3 : (Int32.ofNat (zSz x0)) = (Int32.ofNat (zSz x1))
  · rw [if_pos c3] at h
    refine ev_cmp_f (t := 16) zo_129_4 rfl (zcm_nne c3) rfl ?_
    refine ev_aload_n zo_129_7 rfl rfl rfl rfl ?_
    refine ev_iconst (x := 0) zo_129_8 (by decide) rfl ?_
    refine ev_aload_n zo_129_9 rfl rfl rfl rfl ?_
    refine ev_iconst (x := 0) zo_129_10 (by decide) rfl ?_
    refine ev_aload_n zo_129_11 rfl rfl rfl rfl ?_
    obtain ⟨c4, h⟩ := zz_chk h
    refine ev_alen zo_129_12 c4 rfl ?_
    obtain ⟨c5, h⟩ := zz_chk h
    obtain ⟨c6, h⟩ := zz_chk h
    obtain ⟨c7, h⟩ := zz_chk h
    obtain ⟨c8, h⟩ := zz_chk h
    obtain ⟨c9, h⟩ := zz_chk h
    refine ev_copy zo_129_13 zl_129_303 (Nat.le_of_ble_eq_true rfl) c5 c6 (by decide) (by decide) c7 c8 c9 rfl ?_
    obtain rfl := Option.some.inj h
    exact ev_retV zo_129_16 zr_129
  rw [if_neg c3] at h
  refine ev_cmp_t (t := 16) zo_129_4 rfl (zcm_ne c3) ?_
  obtain rfl := Option.some.inj h
  exact ev_retV zo_129_16 zr_129
/-! X0_take -/
def F_X0_take (x0 : Nat) (x1 : Nat) (J : zzJ) : Option (zzJ) := (if zKd x1 = 0 then (if zKd x0 = 0 then (Option.bind (zMR x0 5) fun b3 => (Option.bind (zMR x1 5) fun b4 => (Option.bind (F_X6_fillFrom b3 b4 (wI (wI (wI (wI J x0 1 (J.2 x1 1)) x0 2 ((wI J x0 1 (J.2 x1 1)).2 x1 2)) x0 3 ((wI (wI J x0 1 (J.2 x1 1)) x0 2 ((wI J x0 1 (J.2 x1 1)).2 x1 2)).2 x1 3)) x0 4 ((wI (wI (wI J x0 1 (J.2 x1 1)) x0 2 ((wI J x0 1 (J.2 x1 1)).2 x1 2)) x0 3 ((wI (wI J x0 1 (J.2 x1 1)) x0 2 ((wI J x0 1 (J.2 x1 1)).2 x1 2)).2 x1 3)).2 x1 4))) fun q5 => (Option.bind (zMR x0 6) fun b6 => (Option.bind (zMR x1 6) fun b7 => (Option.bind (F_X6_fillFrom b6 b7 q5) fun q8 => (Option.bind (zMR x0 7) fun b9 => (Option.bind (zMR x1 7) fun b10 => (Option.bind (F_X6_fillFrom b9 b10 q8) fun q11 => (Option.bind (zMR x0 8) fun b12 => (Option.bind (zMR x1 8) fun b13 => (Option.bind (F_X6_fillFrom b12 b13 q11) fun q14 => (Option.bind (zMR x0 9) fun b15 => (Option.bind (zMR x1 9) fun b16 => (Option.bind (F_X6_fillFrom b15 b16 q14) fun q17 => some q17))))))))))))))) else none) else none)
set_option maxRecDepth 100000 in
set_option maxHeartbeats 2000000 in
theorem G_X0_take {d : Nat} (hd : 1 ≤ d) (x0 : Nat) (x1 : Nat) (J : zzJ) (r : zzJ) (h : F_X0_take x0 x1 J = some r) : zzEv d 1 0 [.ref x0, .ref x1] [] (zK J) (none, zK r) := by
  unfold F_X0_take at h
  refine ev_aload_n zo_1_0 rfl rfl rfl rfl ?_
  refine ev_aload_n zo_1_1 rfl rfl rfl rfl ?_
  obtain ⟨c1, h⟩ := zz_chk h
  refine ev_getI zo_1_2 zf_1_15 (by decide) (Or.inl rfl) c1 rfl ?_
  obtain ⟨c2, h⟩ := zz_chk h
  refine ev_putI zo_1_5 zf_1_15 (by decide) rfl rfl c2 rfl ?_
  refine ev_aload_n zo_1_8 rfl rfl rfl rfl ?_
  refine ev_aload_n zo_1_9 rfl rfl rfl rfl ?_
  refine ev_getI zo_1_10 zf_1_19 (by decide) (Or.inl rfl) c1 rfl ?_
  refine ev_putI zo_1_13 zf_1_19 (by decide) rfl rfl c2 rfl ?_
  refine ev_aload_n zo_1_16 rfl rfl rfl rfl ?_
  refine ev_aload_n zo_1_17 rfl rfl rfl rfl ?_
  refine ev_getI zo_1_18 zf_1_22 (by decide) (Or.inl rfl) c1 rfl ?_
  refine ev_putI zo_1_21 zf_1_22 (by decide) rfl rfl c2 rfl ?_
  refine ev_aload_n zo_1_24 rfl rfl rfl rfl ?_
  refine ev_aload_n zo_1_25 rfl rfl rfl rfl ?_
  refine ev_getI zo_1_26 zf_1_25 (by decide) (Or.inl rfl) c1 rfl ?_
  refine ev_putI zo_1_29 zf_1_25 (by decide) rfl rfl c2 rfl ?_
  refine ev_aload_n zo_1_32 rfl rfl rfl rfl ?_
  obtain ⟨b3, eb3, h⟩ := zz_bd h
  refine ev_getR zo_1_33 zf_1_28 (by decide) rfl c2 eb3 rfl ?_
  refine ev_aload_n zo_1_36 rfl rfl rfl rfl ?_
  obtain ⟨b4, eb4, h⟩ := zz_bd h
  refine ev_getR zo_1_37 zf_1_28 (by decide) rfl c1 eb4 rfl ?_
  obtain ⟨q5, hq5, h⟩ := zz_bd h
  refine ev_cS (as := [.ref b4, .ref b3]) (lsn := [.ref b3, .ref b4]) (by omega) zo_1_40 zl_1_51 (by decide) (by rw [zm_129]; rfl) (by unfold zzIn; rw [zm_129]; rfl) (by rw [zm_129]; exact Nat.le_of_ble_eq_true rfl) (Nat.le_of_ble_eq_true rfl) (G_X6_fillFrom (by omega) b3 b4 (wI (wI (wI (wI J x0 1 (J.2 x1 1)) x0 2 ((wI J x0 1 (J.2 x1 1)).2 x1 2)) x0 3 ((wI (wI J x0 1 (J.2 x1 1)) x0 2 ((wI J x0 1 (J.2 x1 1)).2 x1 2)).2 x1 3)) x0 4 ((wI (wI (wI J x0 1 (J.2 x1 1)) x0 2 ((wI J x0 1 (J.2 x1 1)).2 x1 2)) x0 3 ((wI (wI J x0 1 (J.2 x1 1)) x0 2 ((wI J x0 1 (J.2 x1 1)).2 x1 2)).2 x1 3)).2 x1 4)) q5 hq5) rfl ?_
  show zzEv _ _ _ _ [] _ _
  refine ev_aload_n zo_1_43 rfl rfl rfl rfl ?_
  obtain ⟨b6, eb6, h⟩ := zz_bd h
  refine ev_getR zo_1_44 zf_1_32 (by decide) rfl c2 eb6 rfl ?_
  refine ev_aload_n zo_1_47 rfl rfl rfl rfl ?_
  obtain ⟨b7, eb7, h⟩ := zz_bd h
  refine ev_getR zo_1_48 zf_1_32 (by decide) rfl c1 eb7 rfl ?_
  obtain ⟨q8, hq8, h⟩ := zz_bd h
  refine ev_cS (as := [.ref b7, .ref b6]) (lsn := [.ref b6, .ref b7]) (by omega) zo_1_51 zl_1_51 (by decide) (by rw [zm_129]; rfl) (by unfold zzIn; rw [zm_129]; rfl) (by rw [zm_129]; exact Nat.le_of_ble_eq_true rfl) (Nat.le_of_ble_eq_true rfl) (G_X6_fillFrom (by omega) b6 b7 q5 q8 hq8) rfl ?_
  show zzEv _ _ _ _ [] _ _
  refine ev_aload_n zo_1_54 rfl rfl rfl rfl ?_
  obtain ⟨b9, eb9, h⟩ := zz_bd h
  refine ev_getR zo_1_55 zf_1_35 (by decide) rfl c2 eb9 rfl ?_
  refine ev_aload_n zo_1_58 rfl rfl rfl rfl ?_
  obtain ⟨b10, eb10, h⟩ := zz_bd h
  refine ev_getR zo_1_59 zf_1_35 (by decide) rfl c1 eb10 rfl ?_
  obtain ⟨q11, hq11, h⟩ := zz_bd h
  refine ev_cS (as := [.ref b10, .ref b9]) (lsn := [.ref b9, .ref b10]) (by omega) zo_1_62 zl_1_51 (by decide) (by rw [zm_129]; rfl) (by unfold zzIn; rw [zm_129]; rfl) (by rw [zm_129]; exact Nat.le_of_ble_eq_true rfl) (Nat.le_of_ble_eq_true rfl) (G_X6_fillFrom (by omega) b9 b10 q8 q11 hq11) rfl ?_
  show zzEv _ _ _ _ [] _ _
  refine ev_aload_n zo_1_65 rfl rfl rfl rfl ?_
  obtain ⟨b12, eb12, h⟩ := zz_bd h
  refine ev_getR zo_1_66 zf_1_38 (by decide) rfl c2 eb12 rfl ?_
  refine ev_aload_n zo_1_69 rfl rfl rfl rfl ?_
  obtain ⟨b13, eb13, h⟩ := zz_bd h
  refine ev_getR zo_1_70 zf_1_38 (by decide) rfl c1 eb13 rfl ?_
  obtain ⟨q14, hq14, h⟩ := zz_bd h
  refine ev_cS (as := [.ref b13, .ref b12]) (lsn := [.ref b12, .ref b13]) (by omega) zo_1_73 zl_1_51 (by decide) (by rw [zm_129]; rfl) (by unfold zzIn; rw [zm_129]; rfl) (by rw [zm_129]; exact Nat.le_of_ble_eq_true rfl) (Nat.le_of_ble_eq_true rfl) (G_X6_fillFrom (by omega) b12 b13 q11 q14 hq14) rfl ?_
  show zzEv _ _ _ _ [] _ _
  refine ev_aload_n zo_1_76 rfl rfl rfl rfl ?_
  obtain ⟨b15, eb15, h⟩ := zz_bd h
  refine ev_getR zo_1_77 zf_1_41 (by decide) rfl c2 eb15 rfl ?_
  refine ev_aload_n zo_1_80 rfl rfl rfl rfl ?_
  obtain ⟨b16, eb16, h⟩ := zz_bd h
  refine ev_getR zo_1_81 zf_1_41 (by decide) rfl c1 eb16 rfl ?_
  obtain ⟨q17, hq17, h⟩ := zz_bd h
  refine ev_cS (as := [.ref b16, .ref b15]) (lsn := [.ref b15, .ref b16]) (by omega) zo_1_84 zl_1_51 (by decide) (by rw [zm_129]; rfl) (by unfold zzIn; rw [zm_129]; rfl) (by rw [zm_129]; exact Nat.le_of_ble_eq_true rfl) (Nat.le_of_ble_eq_true rfl) (G_X6_fillFrom (by omega) b15 b16 q14 q17 hq17) rfl ?_
  show zzEv _ _ _ _ [] _ _
  obtain rfl := Option.some.inj h
  exact ev_retV zo_1_87 zr_1
/-! X0_has -/
def F_X0_has (x0 : Nat) (x1 : Int32) (J : zzJ) : Option (Int32 × zzJ) := (if x1 < (0 : Int32) then some ((0 : Int32), J) else (if zKd x0 = 0 then (if x1 < (J.2 x0 4) then some ((1 : Int32), J) else some ((0 : Int32), J)) else none))
set_option maxRecDepth 100000 in
set_option maxHeartbeats 2000000 in
theorem G_X0_has {d : Nat} (hd : 0 ≤ d) (x0 : Nat) (x1 : Int32) (J : zzJ) (r : Int32 × zzJ) (h : F_X0_has x0 x1 J = some r) : zzEv d 2 0 [.ref x0, .int x1] [] (zK J) (some (.int r.1), zK r.2) := by
  unfold F_X0_has at h
  refine ev_iload_n zo_2_0 rfl rfl rfl ?_
  by_cases c1 : x1 < (0 : Int32)
  · rw [if_pos c1] at h
    refine ev_if_t (t := 16) zo_2_1 rfl (zcm_lt c1) ?_
    refine ev_iconst (x := 0) zo_2_16 (by decide) rfl ?_
    obtain rfl := Option.some.inj h
    exact ev_retZ zo_2_17 zr_2 (Or.inl rfl)
  rw [if_neg c1] at h
  refine ev_if_f (t := 16) zo_2_1 rfl (zcm_nlt c1) rfl ?_
  refine ev_iload_n zo_2_4 rfl rfl rfl ?_
  refine ev_aload_n zo_2_5 rfl rfl rfl rfl ?_
  obtain ⟨c2, h⟩ := zz_chk h
  refine ev_getI zo_2_6 zf_2_25 (by decide) (Or.inl rfl) c2 rfl ?_
  by_cases c3 : x1 < (J.2 x0 4)
  · rw [if_pos c3] at h
    refine ev_cmp_f (t := 16) zo_2_9 rfl (zcm_nge c3) rfl ?_
    refine ev_iconst (x := 1) zo_2_12 (by decide) rfl ?_
    refine ev_goto (t := 17) zo_2_13 rfl ?_
    obtain rfl := Option.some.inj h
    exact ev_retZ zo_2_17 zr_2 (Or.inr rfl)
  rw [if_neg c3] at h
  refine ev_cmp_t (t := 16) zo_2_9 rfl (zcm_ge c3) ?_
  refine ev_iconst (x := 0) zo_2_16 (by decide) rfl ?_
  obtain rfl := Option.some.inj h
  exact ev_retZ zo_2_17 zr_2 (Or.inl rfl)
/-! X6_put -/
def F_X6_put (x0 : Nat) (x1 : Int32) (x2 : Int32) (J : zzJ) : Option (zzJ) := (if x1 < (0 : Int32) then some J else (if 8 ≤ zKd x0 ∧ zKd x0 ≤ 10 then (if x1 < (Int32.ofNat (zSz x0)) then (if zKd x0 = 8 then (if zzIx x1 (zSz x0) then some (wI J x0 x1.toNatClampNeg x2) else none) else none) else some J) else none))
set_option maxRecDepth 100000 in
set_option maxHeartbeats 2000000 in
theorem G_X6_put {d : Nat} (hd : 0 ≤ d) (x0 : Nat) (x1 : Int32) (x2 : Int32) (J : zzJ) (r : zzJ) (h : F_X6_put x0 x1 x2 J = some r) : zzEv d 126 0 [.ref x0, .int x1, .int x2] [] (zK J) (none, zK r) := by
  unfold F_X6_put at h
  refine ev_iload_n zo_126_0 rfl rfl rfl ?_
  by_cases c1 : x1 < (0 : Int32)
  · rw [if_pos c1] at h
    refine ev_if_t (t := 14) zo_126_1 rfl (zcm_lt c1) ?_
    obtain rfl := Option.some.inj h
    exact ev_retV zo_126_14 zr_126
  rw [if_neg c1] at h
  refine ev_if_f (t := 14) zo_126_1 rfl (zcm_nlt c1) rfl ?_
  refine ev_iload_n zo_126_4 rfl rfl rfl ?_
  refine ev_aload_n zo_126_5 rfl rfl rfl rfl ?_
  obtain ⟨c2, h⟩ := zz_chk h
  refine ev_alen zo_126_6 c2 rfl ?_
  by_cases c3 : x1 < (Int32.ofNat (zSz x0))
  · rw [if_pos c3] at h
    refine ev_cmp_f (t := 14) zo_126_7 rfl (zcm_nge c3) rfl ?_
    refine ev_aload_n zo_126_10 rfl rfl rfl rfl ?_
    refine ev_iload_n zo_126_11 rfl rfl rfl ?_
    refine ev_iload_n zo_126_12 rfl rfl rfl ?_
    obtain ⟨c4, h⟩ := zz_chk h
    obtain ⟨c5, h⟩ := zz_chk h
    refine ev_iast zo_126_13 c4 c5 rfl ?_
    obtain rfl := Option.some.inj h
    exact ev_retV zo_126_14 zr_126
  rw [if_neg c3] at h
  refine ev_cmp_t (t := 14) zo_126_7 rfl (zcm_ge c3) ?_
  obtain rfl := Option.some.inj h
  exact ev_retV zo_126_14 zr_126
/-! X0_join -/
def F_X0_join (x0 : Nat) (x1 : Int32) (x2 : Int32) (J : zzJ) : Option (Int32 × zzJ) := (if zKd x0 = 0 then (Option.bind (zMR x0 5) fun b2 => (Option.bind (F_X6_put b2 (J.2 x0 4) x1 J) fun q3 => (Option.bind (zMR x0 6) fun b4 => (Option.bind (F_X6_put b4 (q3.2 x0 4) x2 q3) fun q5 => (Option.bind (zMR x0 7) fun b6 => (Option.bind (F_X6_put b6 (q5.2 x0 4) (-1 : Int32) q5) fun q7 => (Option.bind (zMR x0 8) fun b8 => (Option.bind (F_X6_put b8 (q7.2 x0 4) (-1 : Int32) q7) fun q9 => some ((((wI q9 x0 4 ((q9.2 x0 4) + (1 : Int32))).2 x0 4) - (1 : Int32)), (wI q9 x0 4 ((q9.2 x0 4) + (1 : Int32)))))))))))) else none)
set_option maxRecDepth 100000 in
set_option maxHeartbeats 2000000 in
theorem G_X0_join {d : Nat} (hd : 1 ≤ d) (x0 : Nat) (x1 : Int32) (x2 : Int32) (J : zzJ) (r : Int32 × zzJ) (h : F_X0_join x0 x1 x2 J = some r) : zzEv d 3 0 [.ref x0, .int x1, .int x2] [] (zK J) (some (.int r.1), zK r.2) := by
  unfold F_X0_join at h
  refine ev_aload_n zo_3_0 rfl rfl rfl rfl ?_
  obtain ⟨c1, h⟩ := zz_chk h
  obtain ⟨b2, eb2, h⟩ := zz_bd h
  refine ev_getR zo_3_1 zf_3_28 (by decide) rfl c1 eb2 rfl ?_
  refine ev_aload_n zo_3_4 rfl rfl rfl rfl ?_
  refine ev_getI zo_3_5 zf_3_25 (by decide) (Or.inl rfl) c1 rfl ?_
  refine ev_iload_n zo_3_8 rfl rfl rfl ?_
  obtain ⟨q3, hq3, h⟩ := zz_bd h
  refine ev_cS (as := [.int x1, .int (J.2 x0 4), .ref b2]) (lsn := [.ref b2, .int (J.2 x0 4), .int x1]) (by omega) zo_3_9 zl_3_55 (by decide) (by rw [zm_126]; rfl) (by unfold zzIn; rw [zm_126]; rfl) (by rw [zm_126]; exact Nat.le_of_ble_eq_true rfl) (Nat.le_of_ble_eq_true rfl) (G_X6_put (by omega) b2 (J.2 x0 4) x1 J q3 hq3) rfl ?_
  show zzEv _ _ _ _ [] _ _
  refine ev_aload_n zo_3_12 rfl rfl rfl rfl ?_
  obtain ⟨b4, eb4, h⟩ := zz_bd h
  refine ev_getR zo_3_13 zf_3_32 (by decide) rfl c1 eb4 rfl ?_
  refine ev_aload_n zo_3_16 rfl rfl rfl rfl ?_
  refine ev_getI zo_3_17 zf_3_25 (by decide) (Or.inl rfl) c1 rfl ?_
  refine ev_iload_n zo_3_20 rfl rfl rfl ?_
  obtain ⟨q5, hq5, h⟩ := zz_bd h
  refine ev_cS (as := [.int x2, .int (q3.2 x0 4), .ref b4]) (lsn := [.ref b4, .int (q3.2 x0 4), .int x2]) (by omega) zo_3_21 zl_3_55 (by decide) (by rw [zm_126]; rfl) (by unfold zzIn; rw [zm_126]; rfl) (by rw [zm_126]; exact Nat.le_of_ble_eq_true rfl) (Nat.le_of_ble_eq_true rfl) (G_X6_put (by omega) b4 (q3.2 x0 4) x2 q3 q5 hq5) rfl ?_
  show zzEv _ _ _ _ [] _ _
  refine ev_aload_n zo_3_24 rfl rfl rfl rfl ?_
  obtain ⟨b6, eb6, h⟩ := zz_bd h
  refine ev_getR zo_3_25 zf_3_35 (by decide) rfl c1 eb6 rfl ?_
  refine ev_aload_n zo_3_28 rfl rfl rfl rfl ?_
  refine ev_getI zo_3_29 zf_3_25 (by decide) (Or.inl rfl) c1 rfl ?_
  refine ev_iconst (x := (-1)) zo_3_32 (by decide) rfl ?_
  obtain ⟨q7, hq7, h⟩ := zz_bd h
  refine ev_cS (as := [.int (-1 : Int32), .int (q5.2 x0 4), .ref b6]) (lsn := [.ref b6, .int (q5.2 x0 4), .int (-1 : Int32)]) (by omega) zo_3_33 zl_3_55 (by decide) (by rw [zm_126]; rfl) (by unfold zzIn; rw [zm_126]; rfl) (by rw [zm_126]; exact Nat.le_of_ble_eq_true rfl) (Nat.le_of_ble_eq_true rfl) (G_X6_put (by omega) b6 (q5.2 x0 4) (-1 : Int32) q5 q7 hq7) rfl ?_
  show zzEv _ _ _ _ [] _ _
  refine ev_aload_n zo_3_36 rfl rfl rfl rfl ?_
  obtain ⟨b8, eb8, h⟩ := zz_bd h
  refine ev_getR zo_3_37 zf_3_38 (by decide) rfl c1 eb8 rfl ?_
  refine ev_aload_n zo_3_40 rfl rfl rfl rfl ?_
  refine ev_getI zo_3_41 zf_3_25 (by decide) (Or.inl rfl) c1 rfl ?_
  refine ev_iconst (x := (-1)) zo_3_44 (by decide) rfl ?_
  obtain ⟨q9, hq9, h⟩ := zz_bd h
  refine ev_cS (as := [.int (-1 : Int32), .int (q7.2 x0 4), .ref b8]) (lsn := [.ref b8, .int (q7.2 x0 4), .int (-1 : Int32)]) (by omega) zo_3_45 zl_3_55 (by decide) (by rw [zm_126]; rfl) (by unfold zzIn; rw [zm_126]; rfl) (by rw [zm_126]; exact Nat.le_of_ble_eq_true rfl) (Nat.le_of_ble_eq_true rfl) (G_X6_put (by omega) b8 (q7.2 x0 4) (-1 : Int32) q7 q9 hq9) rfl ?_
  show zzEv _ _ _ _ [] _ _
  refine ev_aload_n zo_3_48 rfl rfl rfl rfl ?_
  refine ev_dup zo_3_49 rfl rfl ?_
  refine ev_getI zo_3_50 zf_3_25 (by decide) (Or.inl rfl) c1 rfl ?_
  refine ev_iconst (x := 1) zo_3_53 (by decide) rfl ?_
  refine ev_iadd zo_3_54 rfl ?_
  refine ev_putI zo_3_55 zf_3_25 (by decide) rfl rfl c1 rfl ?_
  refine ev_aload_n zo_3_58 rfl rfl rfl rfl ?_
  refine ev_getI zo_3_59 zf_3_25 (by decide) (Or.inl rfl) c1 rfl ?_
  refine ev_iconst (x := 1) zo_3_62 (by decide) rfl ?_
  refine ev_isub zo_3_63 rfl ?_
  obtain rfl := Option.some.inj h
  exact ev_retI zo_3_64 zr_3
/-! X6_itemAt -/
def F_X6_itemAt (x0 : Nat) (x1 : Int32) (J : zzJ) : Option (Int32 × zzJ) := (if x1 < (0 : Int32) then some ((0 : Int32), J) else (if 8 ≤ zKd x0 ∧ zKd x0 ≤ 10 then (if x1 < (Int32.ofNat (zSz x0)) then (if zKd x0 = 8 then (if zzIx x1 (zSz x0) then some ((J.2 x0 x1.toNatClampNeg), J) else none) else none) else some ((0 : Int32), J)) else none))
set_option maxRecDepth 100000 in
set_option maxHeartbeats 2000000 in
theorem G_X6_itemAt {d : Nat} (hd : 0 ≤ d) (x0 : Nat) (x1 : Int32) (J : zzJ) (r : Int32 × zzJ) (h : F_X6_itemAt x0 x1 J = some r) : zzEv d 125 0 [.ref x0, .int x1] [] (zK J) (some (.int r.1), zK r.2) := by
  unfold F_X6_itemAt at h
  refine ev_iload_n zo_125_0 rfl rfl rfl ?_
  by_cases c1 : x1 < (0 : Int32)
  · rw [if_pos c1] at h
    refine ev_if_t (t := 16) zo_125_1 rfl (zcm_lt c1) ?_
    refine ev_iconst (x := 0) zo_125_16 (by decide) rfl ?_
    obtain rfl := Option.some.inj h
    exact ev_retI zo_125_17 zr_125
  rw [if_neg c1] at h
  refine ev_if_f (t := 16) zo_125_1 rfl (zcm_nlt c1) rfl ?_
  refine ev_iload_n zo_125_4 rfl rfl rfl ?_
  refine ev_aload_n zo_125_5 rfl rfl rfl rfl ?_
  obtain ⟨c2, h⟩ := zz_chk h
  refine ev_alen zo_125_6 c2 rfl ?_
  by_cases c3 : x1 < (Int32.ofNat (zSz x0))
  · rw [if_pos c3] at h
    refine ev_cmp_f (t := 16) zo_125_7 rfl (zcm_nge c3) rfl ?_
    refine ev_aload_n zo_125_10 rfl rfl rfl rfl ?_
    refine ev_iload_n zo_125_11 rfl rfl rfl ?_
    obtain ⟨c4, h⟩ := zz_chk h
    obtain ⟨c5, h⟩ := zz_chk h
    refine ev_iald zo_125_12 c4 c5 rfl ?_
    refine ev_goto (t := 17) zo_125_13 rfl ?_
    obtain rfl := Option.some.inj h
    exact ev_retI zo_125_17 zr_125
  rw [if_neg c3] at h
  refine ev_cmp_t (t := 16) zo_125_7 rfl (zcm_ge c3) ?_
  refine ev_iconst (x := 0) zo_125_16 (by decide) rfl ?_
  obtain rfl := Option.some.inj h
  exact ev_retI zo_125_17 zr_125
/-! X0_kindOf -/
def F_X0_kindOf (x0 : Nat) (x1 : Int32) (J : zzJ) : Option (Int32 × zzJ) := (if zKd x0 = 0 then (Option.bind (zMR x0 5) fun b2 => (Option.bind (F_X6_itemAt b2 x1 J) fun q3 => some (q3.1, q3.2))) else none)
set_option maxRecDepth 100000 in
set_option maxHeartbeats 2000000 in
theorem G_X0_kindOf {d : Nat} (hd : 1 ≤ d) (x0 : Nat) (x1 : Int32) (J : zzJ) (r : Int32 × zzJ) (h : F_X0_kindOf x0 x1 J = some r) : zzEv d 4 0 [.ref x0, .int x1] [] (zK J) (some (.int r.1), zK r.2) := by
  unfold F_X0_kindOf at h
  refine ev_aload_n zo_4_0 rfl rfl rfl rfl ?_
  obtain ⟨c1, h⟩ := zz_chk h
  obtain ⟨b2, eb2, h⟩ := zz_bd h
  refine ev_getR zo_4_1 zf_4_28 (by decide) rfl c1 eb2 rfl ?_
  refine ev_iload_n zo_4_4 rfl rfl rfl ?_
  obtain ⟨q3, hq3, h⟩ := zz_bd h
  refine ev_cS (as := [.int x1, .ref b2]) (lsn := [.ref b2, .int x1]) (by omega) zo_4_5 zl_4_59 (by decide) (by rw [zm_125]; rfl) (by unfold zzIn; rw [zm_125]; rfl) (by rw [zm_125]; exact Nat.le_of_ble_eq_true rfl) (Nat.le_of_ble_eq_true rfl) (G_X6_itemAt (by omega) b2 x1 J q3 hq3) rfl ?_
  show zzEv _ _ _ _ [.int q3.1] _ _
  obtain rfl := Option.some.inj h
  exact ev_retI zo_4_8 zr_4
/-! X0_numberOf -/
def F_X0_numberOf (x0 : Nat) (x1 : Int32) (J : zzJ) : Option (Int32 × zzJ) := (if zKd x0 = 0 then (Option.bind (zMR x0 6) fun b2 => (Option.bind (F_X6_itemAt b2 x1 J) fun q3 => some (q3.1, q3.2))) else none)
set_option maxRecDepth 100000 in
set_option maxHeartbeats 2000000 in
theorem G_X0_numberOf {d : Nat} (hd : 1 ≤ d) (x0 : Nat) (x1 : Int32) (J : zzJ) (r : Int32 × zzJ) (h : F_X0_numberOf x0 x1 J = some r) : zzEv d 5 0 [.ref x0, .int x1] [] (zK J) (some (.int r.1), zK r.2) := by
  unfold F_X0_numberOf at h
  refine ev_aload_n zo_5_0 rfl rfl rfl rfl ?_
  obtain ⟨c1, h⟩ := zz_chk h
  obtain ⟨b2, eb2, h⟩ := zz_bd h
  refine ev_getR zo_5_1 zf_5_32 (by decide) rfl c1 eb2 rfl ?_
  refine ev_iload_n zo_5_4 rfl rfl rfl ?_
  obtain ⟨q3, hq3, h⟩ := zz_bd h
  refine ev_cS (as := [.int x1, .ref b2]) (lsn := [.ref b2, .int x1]) (by omega) zo_5_5 zl_5_59 (by decide) (by rw [zm_125]; rfl) (by unfold zzIn; rw [zm_125]; rfl) (by rw [zm_125]; exact Nat.le_of_ble_eq_true rfl) (Nat.le_of_ble_eq_true rfl) (G_X6_itemAt (by omega) b2 x1 J q3 hq3) rfl ?_
  show zzEv _ _ _ _ [.int q3.1] _ _
  obtain rfl := Option.some.inj h
  exact ev_retI zo_5_8 zr_5
/-! X0_friendOf -/
def F_X0_friendOf (x0 : Nat) (x1 : Int32) (J : zzJ) : Option (Int32 × zzJ) := (if zKd x0 = 0 then (Option.bind (zMR x0 7) fun b2 => (Option.bind (F_X6_itemAt b2 x1 J) fun q3 => some (q3.1, q3.2))) else none)
set_option maxRecDepth 100000 in
set_option maxHeartbeats 2000000 in
theorem G_X0_friendOf {d : Nat} (hd : 1 ≤ d) (x0 : Nat) (x1 : Int32) (J : zzJ) (r : Int32 × zzJ) (h : F_X0_friendOf x0 x1 J = some r) : zzEv d 6 0 [.ref x0, .int x1] [] (zK J) (some (.int r.1), zK r.2) := by
  unfold F_X0_friendOf at h
  refine ev_aload_n zo_6_0 rfl rfl rfl rfl ?_
  obtain ⟨c1, h⟩ := zz_chk h
  obtain ⟨b2, eb2, h⟩ := zz_bd h
  refine ev_getR zo_6_1 zf_6_35 (by decide) rfl c1 eb2 rfl ?_
  refine ev_iload_n zo_6_4 rfl rfl rfl ?_
  obtain ⟨q3, hq3, h⟩ := zz_bd h
  refine ev_cS (as := [.int x1, .ref b2]) (lsn := [.ref b2, .int x1]) (by omega) zo_6_5 zl_6_59 (by decide) (by rw [zm_125]; rfl) (by unfold zzIn; rw [zm_125]; rfl) (by rw [zm_125]; exact Nat.le_of_ble_eq_true rfl) (Nat.le_of_ble_eq_true rfl) (G_X6_itemAt (by omega) b2 x1 J q3 hq3) rfl ?_
  show zzEv _ _ _ _ [.int q3.1] _ _
  obtain rfl := Option.some.inj h
  exact ev_retI zo_6_8 zr_6
/-! X0_seatOf -/
def F_X0_seatOf (x0 : Nat) (x1 : Int32) (J : zzJ) : Option (Int32 × zzJ) := (if x1 < (0 : Int32) then some ((-1 : Int32), J) else (if zKd x0 = 0 then (if x1 < (J.2 x0 4) then (Option.bind (zMR x0 8) fun b4 => (if 8 ≤ zKd b4 ∧ zKd b4 ≤ 10 then (if x1 < (Int32.ofNat (zSz b4)) then (if zKd b4 = 8 then (if zzIx x1 (zSz b4) then some ((J.2 b4 x1.toNatClampNeg), J) else none) else none) else some ((-1 : Int32), J)) else none)) else some ((-1 : Int32), J)) else none))
set_option maxRecDepth 100000 in
set_option maxHeartbeats 2000000 in
theorem G_X0_seatOf {d : Nat} (hd : 0 ≤ d) (x0 : Nat) (x1 : Int32) (J : zzJ) (r : Int32 × zzJ) (h : F_X0_seatOf x0 x1 J = some r) : zzEv d 7 0 [.ref x0, .int x1] [] (zK J) (some (.int r.1), zK r.2) := by
  unfold F_X0_seatOf at h
  refine ev_iload_n zo_7_0 rfl rfl rfl ?_
  by_cases c1 : x1 < (0 : Int32)
  · rw [if_pos c1] at h
    refine ev_if_t (t := 30) zo_7_1 rfl (zcm_lt c1) ?_
    refine ev_iconst (x := (-1)) zo_7_30 (by decide) rfl ?_
    obtain rfl := Option.some.inj h
    exact ev_retI zo_7_31 zr_7
  rw [if_neg c1] at h
  refine ev_if_f (t := 30) zo_7_1 rfl (zcm_nlt c1) rfl ?_
  refine ev_iload_n zo_7_4 rfl rfl rfl ?_
  refine ev_aload_n zo_7_5 rfl rfl rfl rfl ?_
  obtain ⟨c2, h⟩ := zz_chk h
  refine ev_getI zo_7_6 zf_7_25 (by decide) (Or.inl rfl) c2 rfl ?_
  by_cases c3 : x1 < (J.2 x0 4)
  · rw [if_pos c3] at h
    refine ev_cmp_f (t := 30) zo_7_9 rfl (zcm_nge c3) rfl ?_
    refine ev_iload_n zo_7_12 rfl rfl rfl ?_
    refine ev_aload_n zo_7_13 rfl rfl rfl rfl ?_
    obtain ⟨b4, eb4, h⟩ := zz_bd h
    refine ev_getR zo_7_14 zf_7_38 (by decide) rfl c2 eb4 rfl ?_
    obtain ⟨c5, h⟩ := zz_chk h
    refine ev_alen zo_7_17 c5 rfl ?_
    by_cases c6 : x1 < (Int32.ofNat (zSz b4))
    · rw [if_pos c6] at h
      refine ev_cmp_f (t := 30) zo_7_18 rfl (zcm_nge c6) rfl ?_
      refine ev_aload_n zo_7_21 rfl rfl rfl rfl ?_
      refine ev_getR zo_7_22 zf_7_38 (by decide) rfl c2 eb4 rfl ?_
      refine ev_iload_n zo_7_25 rfl rfl rfl ?_
      obtain ⟨c7, h⟩ := zz_chk h
      obtain ⟨c8, h⟩ := zz_chk h
      refine ev_iald zo_7_26 c7 c8 rfl ?_
      refine ev_goto (t := 31) zo_7_27 rfl ?_
      obtain rfl := Option.some.inj h
      exact ev_retI zo_7_31 zr_7
    rw [if_neg c6] at h
    refine ev_cmp_t (t := 30) zo_7_18 rfl (zcm_ge c6) ?_
    refine ev_iconst (x := (-1)) zo_7_30 (by decide) rfl ?_
    obtain rfl := Option.some.inj h
    exact ev_retI zo_7_31 zr_7
  rw [if_neg c3] at h
  refine ev_cmp_t (t := 30) zo_7_9 rfl (zcm_ge c3) ?_
  refine ev_iconst (x := (-1)) zo_7_30 (by decide) rfl ?_
  obtain rfl := Option.some.inj h
  exact ev_retI zo_7_31 zr_7
/-! X0_sits -/
def F_X0_sits (x0 : Nat) (x1 : Int32) (J : zzJ) : Option (Int32 × zzJ) := (if zKd x0 = 0 then (Option.bind (F_X0_seatOf x0 x1 J) fun q2 => (if q2.1 = (-1 : Int32) then some ((0 : Int32), q2.2) else some ((1 : Int32), q2.2))) else none)
set_option maxRecDepth 100000 in
set_option maxHeartbeats 2000000 in
theorem G_X0_sits {d : Nat} (hd : 1 ≤ d) (x0 : Nat) (x1 : Int32) (J : zzJ) (r : Int32 × zzJ) (h : F_X0_sits x0 x1 J = some r) : zzEv d 8 0 [.ref x0, .int x1] [] (zK J) (some (.int r.1), zK r.2) := by
  unfold F_X0_sits at h
  refine ev_aload_n zo_8_0 rfl rfl rfl rfl ?_
  refine ev_iload_n zo_8_1 rfl rfl rfl ?_
  obtain ⟨c1, h⟩ := zz_chk h
  obtain ⟨q2, hq2, h⟩ := zz_bd h
  refine ev_cV (as := [.int x1]) (lsn := [.ref x0, .int x1]) (by omega) zo_8_2 zl_8_63 (by rw [zm_7]; rfl) (by rw [zm_7]; exact c1) (by rw [zm_7]; decide) (by unfold zzIn; rw [zm_7]; rfl) (by rw [zm_7]; exact Nat.le_of_ble_eq_true rfl) (Nat.le_of_ble_eq_true rfl) (G_X0_seatOf (by omega) x0 x1 J q2 hq2) rfl ?_
  show zzEv _ _ _ _ [.int q2.1] _ _
  refine ev_iconst (x := (-1)) zo_8_5 (by decide) rfl ?_
  by_cases c3 : q2.1 = (-1 : Int32)
  · rw [if_pos c3] at h
    refine ev_cmp_t (t := 13) zo_8_6 rfl (zcm_eq c3) ?_
    refine ev_iconst (x := 0) zo_8_13 (by decide) rfl ?_
    obtain rfl := Option.some.inj h
    exact ev_retZ zo_8_14 zr_8 (Or.inl rfl)
  rw [if_neg c3] at h
  refine ev_cmp_f (t := 13) zo_8_6 rfl (zcm_neq c3) rfl ?_
  refine ev_iconst (x := 1) zo_8_9 (by decide) rfl ?_
  refine ev_goto (t := 14) zo_8_10 rfl ?_
  obtain rfl := Option.some.inj h
  exact ev_retZ zo_8_14 zr_8 (Or.inr rfl)
/-! X0_sitterAt -/
def F_X0_sitterAt (x0 : Nat) (x1 : Int32) (J : zzJ) : Option (Int32 × zzJ) := (if x1 < (0 : Int32) then some ((-1 : Int32), J) else (if zKd x0 = 0 then (Option.bind (zMR x0 9) fun b3 => (if 8 ≤ zKd b3 ∧ zKd b3 ≤ 10 then (if x1 < (Int32.ofNat (zSz b3)) then (if zKd b3 = 8 then (if zzIx x1 (zSz b3) then some ((J.2 b3 x1.toNatClampNeg), J) else none) else none) else some ((-1 : Int32), J)) else none)) else none))
set_option maxRecDepth 100000 in
set_option maxHeartbeats 2000000 in
theorem G_X0_sitterAt {d : Nat} (hd : 0 ≤ d) (x0 : Nat) (x1 : Int32) (J : zzJ) (r : Int32 × zzJ) (h : F_X0_sitterAt x0 x1 J = some r) : zzEv d 9 0 [.ref x0, .int x1] [] (zK J) (some (.int r.1), zK r.2) := by
  unfold F_X0_sitterAt at h
  refine ev_iload_n zo_9_0 rfl rfl rfl ?_
  by_cases c1 : x1 < (0 : Int32)
  · rw [if_pos c1] at h
    refine ev_if_t (t := 22) zo_9_1 rfl (zcm_lt c1) ?_
    refine ev_iconst (x := (-1)) zo_9_22 (by decide) rfl ?_
    obtain rfl := Option.some.inj h
    exact ev_retI zo_9_23 zr_9
  rw [if_neg c1] at h
  refine ev_if_f (t := 22) zo_9_1 rfl (zcm_nlt c1) rfl ?_
  refine ev_iload_n zo_9_4 rfl rfl rfl ?_
  refine ev_aload_n zo_9_5 rfl rfl rfl rfl ?_
  obtain ⟨c2, h⟩ := zz_chk h
  obtain ⟨b3, eb3, h⟩ := zz_bd h
  refine ev_getR zo_9_6 zf_9_41 (by decide) rfl c2 eb3 rfl ?_
  obtain ⟨c4, h⟩ := zz_chk h
  refine ev_alen zo_9_9 c4 rfl ?_
  by_cases c5 : x1 < (Int32.ofNat (zSz b3))
  · rw [if_pos c5] at h
    refine ev_cmp_f (t := 22) zo_9_10 rfl (zcm_nge c5) rfl ?_
    refine ev_aload_n zo_9_13 rfl rfl rfl rfl ?_
    refine ev_getR zo_9_14 zf_9_41 (by decide) rfl c2 eb3 rfl ?_
    refine ev_iload_n zo_9_17 rfl rfl rfl ?_
    obtain ⟨c6, h⟩ := zz_chk h
    obtain ⟨c7, h⟩ := zz_chk h
    refine ev_iald zo_9_18 c6 c7 rfl ?_
    refine ev_goto (t := 23) zo_9_19 rfl ?_
    obtain rfl := Option.some.inj h
    exact ev_retI zo_9_23 zr_9
  rw [if_neg c5] at h
  refine ev_cmp_t (t := 22) zo_9_10 rfl (zcm_ge c5) ?_
  refine ev_iconst (x := (-1)) zo_9_22 (by decide) rfl ?_
  obtain rfl := Option.some.inj h
  exact ev_retI zo_9_23 zr_9
/-! X0_isOpen -/
def F_X0_isOpen (x0 : Nat) (x1 : Int32) (x2 : Int32) (J : zzJ) : Option (Int32 × zzJ) := (if zKd x0 = 0 then (Option.bind (F_X0_sitterAt x0 x1 J) fun q2 => (if q2.1 = (-1 : Int32) then some ((1 : Int32), q2.2) else (if q2.1 = x2 then some ((1 : Int32), q2.2) else some ((0 : Int32), q2.2)))) else none)
set_option maxRecDepth 100000 in
set_option maxHeartbeats 2000000 in
theorem G_X0_isOpen {d : Nat} (hd : 1 ≤ d) (x0 : Nat) (x1 : Int32) (x2 : Int32) (J : zzJ) (r : Int32 × zzJ) (h : F_X0_isOpen x0 x1 x2 J = some r) : zzEv d 10 0 [.ref x0, .int x1, .int x2, zzU] [] (zK J) (some (.int r.1), zK r.2) := by
  unfold F_X0_isOpen at h
  refine ev_aload_n zo_10_0 rfl rfl rfl rfl ?_
  refine ev_iload_n zo_10_1 rfl rfl rfl ?_
  obtain ⟨c1, h⟩ := zz_chk h
  obtain ⟨q2, hq2, h⟩ := zz_bd h
  refine ev_cV (as := [.int x1]) (lsn := [.ref x0, .int x1]) (by omega) zo_10_2 zl_10_67 (by rw [zm_9]; rfl) (by rw [zm_9]; exact c1) (by rw [zm_9]; decide) (by unfold zzIn; rw [zm_9]; rfl) (by rw [zm_9]; exact Nat.le_of_ble_eq_true rfl) (Nat.le_of_ble_eq_true rfl) (G_X0_sitterAt (by omega) x0 x1 J q2 hq2) rfl ?_
  show zzEv _ _ _ _ [.int q2.1] _ _
  refine ev_istore_n zo_10_5 rfl (zz_set rfl (by decide) (Nat.le_of_ble_eq_true rfl)) rfl ?_
  show zzEv _ _ _ [.ref x0, .int x1, .int x2, .int q2.1] _ _ _
  refine ev_iload_n zo_10_6 rfl rfl rfl ?_
  refine ev_iconst (x := (-1)) zo_10_7 (by decide) rfl ?_
  by_cases c3 : q2.1 = (-1 : Int32)
  · rw [if_pos c3] at h
    refine ev_cmp_t (t := 16) zo_10_8 rfl (zcm_eq c3) ?_
    refine ev_iconst (x := 1) zo_10_16 (by decide) rfl ?_
    refine ev_goto (t := 21) zo_10_17 rfl ?_
    obtain rfl := Option.some.inj h
    exact ev_retZ zo_10_21 zr_10 (Or.inr rfl)
  rw [if_neg c3] at h
  refine ev_cmp_f (t := 16) zo_10_8 rfl (zcm_neq c3) rfl ?_
  refine ev_iload_n zo_10_11 rfl rfl rfl ?_
  refine ev_iload_n zo_10_12 rfl rfl rfl ?_
  by_cases c4 : q2.1 = x2
  · rw [if_pos c4] at h
    refine ev_cmp_f (t := 20) zo_10_13 rfl (zcm_nne c4) rfl ?_
    refine ev_iconst (x := 1) zo_10_16 (by decide) rfl ?_
    refine ev_goto (t := 21) zo_10_17 rfl ?_
    obtain rfl := Option.some.inj h
    exact ev_retZ zo_10_21 zr_10 (Or.inr rfl)
  rw [if_neg c4] at h
  refine ev_cmp_t (t := 20) zo_10_13 rfl (zcm_ne c4) ?_
  refine ev_iconst (x := 0) zo_10_20 (by decide) rfl ?_
  obtain rfl := Option.some.inj h
  exact ev_retZ zo_10_21 zr_10 (Or.inl rfl)
/-! X0_move -/
def F_X0_move (x0 : Nat) (x1 : Int32) (x2 : Int32) (J : zzJ) : Option (zzJ) := (if zKd x0 = 0 then (Option.bind (zMR x0 9) fun b2 => (Option.bind (F_X0_seatOf x0 x1 J) fun q3 => (Option.bind (F_X6_put b2 q3.1 (-1 : Int32) q3.2) fun q4 => (Option.bind (zMR x0 8) fun b5 => (Option.bind (F_X6_put b5 x1 x2 q4) fun q6 => (Option.bind (F_X6_put b2 x2 x1 q6) fun q7 => some q7)))))) else none)
set_option maxRecDepth 100000 in
set_option maxHeartbeats 2000000 in
theorem G_X0_move {d : Nat} (hd : 1 ≤ d) (x0 : Nat) (x1 : Int32) (x2 : Int32) (J : zzJ) (r : zzJ) (h : F_X0_move x0 x1 x2 J = some r) : zzEv d 11 0 [.ref x0, .int x1, .int x2] [] (zK J) (none, zK r) := by
  unfold F_X0_move at h
  refine ev_aload_n zo_11_0 rfl rfl rfl rfl ?_
  obtain ⟨c1, h⟩ := zz_chk h
  obtain ⟨b2, eb2, h⟩ := zz_bd h
  refine ev_getR zo_11_1 zf_11_41 (by decide) rfl c1 eb2 rfl ?_
  refine ev_aload_n zo_11_4 rfl rfl rfl rfl ?_
  refine ev_iload_n zo_11_5 rfl rfl rfl ?_
  obtain ⟨q3, hq3, h⟩ := zz_bd h
  refine ev_cV (as := [.int x1]) (lsn := [.ref x0, .int x1]) (by omega) zo_11_6 zl_11_63 (by rw [zm_7]; rfl) (by rw [zm_7]; exact c1) (by rw [zm_7]; decide) (by unfold zzIn; rw [zm_7]; rfl) (by rw [zm_7]; exact Nat.le_of_ble_eq_true rfl) (Nat.le_of_ble_eq_true rfl) (G_X0_seatOf (by omega) x0 x1 J q3 hq3) rfl ?_
  show zzEv _ _ _ _ [.int q3.1, .ref b2] _ _
  refine ev_iconst (x := (-1)) zo_11_9 (by decide) rfl ?_
  obtain ⟨q4, hq4, h⟩ := zz_bd h
  refine ev_cS (as := [.int (-1 : Int32), .int q3.1, .ref b2]) (lsn := [.ref b2, .int q3.1, .int (-1 : Int32)]) (by omega) zo_11_10 zl_11_55 (by decide) (by rw [zm_126]; rfl) (by unfold zzIn; rw [zm_126]; rfl) (by rw [zm_126]; exact Nat.le_of_ble_eq_true rfl) (Nat.le_of_ble_eq_true rfl) (G_X6_put (by omega) b2 q3.1 (-1 : Int32) q3.2 q4 hq4) rfl ?_
  show zzEv _ _ _ _ [] _ _
  refine ev_aload_n zo_11_13 rfl rfl rfl rfl ?_
  obtain ⟨b5, eb5, h⟩ := zz_bd h
  refine ev_getR zo_11_14 zf_11_38 (by decide) rfl c1 eb5 rfl ?_
  refine ev_iload_n zo_11_17 rfl rfl rfl ?_
  refine ev_iload_n zo_11_18 rfl rfl rfl ?_
  obtain ⟨q6, hq6, h⟩ := zz_bd h
  refine ev_cS (as := [.int x2, .int x1, .ref b5]) (lsn := [.ref b5, .int x1, .int x2]) (by omega) zo_11_19 zl_11_55 (by decide) (by rw [zm_126]; rfl) (by unfold zzIn; rw [zm_126]; rfl) (by rw [zm_126]; exact Nat.le_of_ble_eq_true rfl) (Nat.le_of_ble_eq_true rfl) (G_X6_put (by omega) b5 x1 x2 q4 q6 hq6) rfl ?_
  show zzEv _ _ _ _ [] _ _
  refine ev_aload_n zo_11_22 rfl rfl rfl rfl ?_
  refine ev_getR zo_11_23 zf_11_41 (by decide) rfl c1 eb2 rfl ?_
  refine ev_iload_n zo_11_26 rfl rfl rfl ?_
  refine ev_iload_n zo_11_27 rfl rfl rfl ?_
  obtain ⟨q7, hq7, h⟩ := zz_bd h
  refine ev_cS (as := [.int x1, .int x2, .ref b2]) (lsn := [.ref b2, .int x2, .int x1]) (by omega) zo_11_28 zl_11_55 (by decide) (by rw [zm_126]; rfl) (by unfold zzIn; rw [zm_126]; rfl) (by rw [zm_126]; exact Nat.le_of_ble_eq_true rfl) (Nat.le_of_ble_eq_true rfl) (G_X6_put (by omega) b2 x2 x1 q6 q7 hq7) rfl ?_
  show zzEv _ _ _ _ [] _ _
  obtain rfl := Option.some.inj h
  exact ev_retV zo_11_31 zr_11
/-! X0_exchange -/
def F_X0_exchange (x0 : Nat) (x1 : Int32) (x2 : Int32) (J : zzJ) : Option (zzJ) := (if zKd x0 = 0 then (Option.bind (F_X0_seatOf x0 x1 J) fun q2 => (Option.bind (F_X0_seatOf x0 x2 q2.2) fun q3 => (Option.bind (F_X0_move x0 x1 (-1 : Int32) q3.2) fun q4 => (Option.bind (F_X0_move x0 x2 q2.1 q4) fun q5 => (Option.bind (F_X0_move x0 x1 q3.1 q5) fun q6 => some q6))))) else none)
set_option maxRecDepth 100000 in
set_option maxHeartbeats 2000000 in
theorem G_X0_exchange {d : Nat} (hd : 2 ≤ d) (x0 : Nat) (x1 : Int32) (x2 : Int32) (J : zzJ) (r : zzJ) (h : F_X0_exchange x0 x1 x2 J = some r) : zzEv d 12 0 [.ref x0, .int x1, .int x2, zzU, zzU] [] (zK J) (none, zK r) := by
  unfold F_X0_exchange at h
  refine ev_aload_n zo_12_0 rfl rfl rfl rfl ?_
  refine ev_iload_n zo_12_1 rfl rfl rfl ?_
  obtain ⟨c1, h⟩ := zz_chk h
  obtain ⟨q2, hq2, h⟩ := zz_bd h
  refine ev_cV (as := [.int x1]) (lsn := [.ref x0, .int x1]) (by omega) zo_12_2 zl_12_63 (by rw [zm_7]; rfl) (by rw [zm_7]; exact c1) (by rw [zm_7]; decide) (by unfold zzIn; rw [zm_7]; rfl) (by rw [zm_7]; exact Nat.le_of_ble_eq_true rfl) (Nat.le_of_ble_eq_true rfl) (G_X0_seatOf (by omega) x0 x1 J q2 hq2) rfl ?_
  show zzEv _ _ _ _ [.int q2.1] _ _
  refine ev_istore_n zo_12_5 rfl (zz_set rfl (by decide) (Nat.le_of_ble_eq_true rfl)) rfl ?_
  show zzEv _ _ _ [.ref x0, .int x1, .int x2, .int q2.1, zzU] _ _ _
  refine ev_aload_n zo_12_6 rfl rfl rfl rfl ?_
  refine ev_iload_n zo_12_7 rfl rfl rfl ?_
  obtain ⟨q3, hq3, h⟩ := zz_bd h
  refine ev_cV (as := [.int x2]) (lsn := [.ref x0, .int x2]) (by omega) zo_12_8 zl_12_63 (by rw [zm_7]; rfl) (by rw [zm_7]; exact c1) (by rw [zm_7]; decide) (by unfold zzIn; rw [zm_7]; rfl) (by rw [zm_7]; exact Nat.le_of_ble_eq_true rfl) (Nat.le_of_ble_eq_true rfl) (G_X0_seatOf (by omega) x0 x2 q2.2 q3 hq3) rfl ?_
  show zzEv _ _ _ _ [.int q3.1] _ _
  refine ev_istore zo_12_11 (zz_set rfl (by decide) (Nat.le_of_ble_eq_true rfl)) rfl ?_
  show zzEv _ _ _ [.ref x0, .int x1, .int x2, .int q2.1, .int q3.1] _ _ _
  refine ev_aload_n zo_12_13 rfl rfl rfl rfl ?_
  refine ev_iload_n zo_12_14 rfl rfl rfl ?_
  refine ev_iconst (x := (-1)) zo_12_15 (by decide) rfl ?_
  obtain ⟨q4, hq4, h⟩ := zz_bd h
  refine ev_cV (as := [.int (-1 : Int32), .int x1]) (lsn := [.ref x0, .int x1, .int (-1 : Int32)]) (by omega) zo_12_16 zl_12_70 (by rw [zm_11]; rfl) (by rw [zm_11]; exact c1) (by rw [zm_11]; decide) (by unfold zzIn; rw [zm_11]; rfl) (by rw [zm_11]; exact Nat.le_of_ble_eq_true rfl) (Nat.le_of_ble_eq_true rfl) (G_X0_move (by omega) x0 x1 (-1 : Int32) q3.2 q4 hq4) rfl ?_
  show zzEv _ _ _ _ [] _ _
  refine ev_aload_n zo_12_19 rfl rfl rfl rfl ?_
  refine ev_iload_n zo_12_20 rfl rfl rfl ?_
  refine ev_iload_n zo_12_21 rfl rfl rfl ?_
  obtain ⟨q5, hq5, h⟩ := zz_bd h
  refine ev_cV (as := [.int q2.1, .int x2]) (lsn := [.ref x0, .int x2, .int q2.1]) (by omega) zo_12_22 zl_12_70 (by rw [zm_11]; rfl) (by rw [zm_11]; exact c1) (by rw [zm_11]; decide) (by unfold zzIn; rw [zm_11]; rfl) (by rw [zm_11]; exact Nat.le_of_ble_eq_true rfl) (Nat.le_of_ble_eq_true rfl) (G_X0_move (by omega) x0 x2 q2.1 q4 q5 hq5) rfl ?_
  show zzEv _ _ _ _ [] _ _
  refine ev_aload_n zo_12_25 rfl rfl rfl rfl ?_
  refine ev_iload_n zo_12_26 rfl rfl rfl ?_
  refine ev_iload zo_12_27 rfl rfl ?_
  obtain ⟨q6, hq6, h⟩ := zz_bd h
  refine ev_cV (as := [.int q3.1, .int x1]) (lsn := [.ref x0, .int x1, .int q3.1]) (by omega) zo_12_29 zl_12_70 (by rw [zm_11]; rfl) (by rw [zm_11]; exact c1) (by rw [zm_11]; decide) (by unfold zzIn; rw [zm_11]; rfl) (by rw [zm_11]; exact Nat.le_of_ble_eq_true rfl) (Nat.le_of_ble_eq_true rfl) (G_X0_move (by omega) x0 x1 q3.1 q5 q6 hq6) rfl ?_
  show zzEv _ _ _ _ [] _ _
  obtain rfl := Option.some.inj h
  exact ev_retV zo_12_32 zr_12
/-! X0_firstFreeFrom -/
def F_X0_firstFreeFrom_2 : Nat → Nat → Int32 → Int32 → zzJ → Option (Int32 × zzJ)
  | 0, _, _, _, _ => none
  | n + 1, l0, l1, l2, J => (if l2 < (24 : Int32) then (if zKd l0 = 0 then (Option.bind (F_X0_sitterAt l0 (zRem (l1 + l2) (24 : Int32)) J) fun q3 => (if q3.1 = (-1 : Int32) then some ((zRem (l1 + l2) (24 : Int32)), q3.2) else F_X0_firstFreeFrom_2 n l0 l1 (l2 + 1) q3.2)) else none) else some ((-1 : Int32), J))
set_option maxRecDepth 100000 in
set_option maxHeartbeats 2000000 in
theorem G_X0_firstFreeFrom_2 {d : Nat} (hd : 1 ≤ d) : ∀ (n : Nat) (l0 : Nat) (l1 : Int32) (l2 : Int32) (J : zzJ) (r : Int32 × zzJ), F_X0_firstFreeFrom_2 n l0 l1 l2 J = some r → zzEv d 13 2 [.ref l0, .int l1, .int l2] [] (zK J) (some (.int r.1), zK r.2) := by
  intro n
  induction n with
  | zero => intro l0 l1 l2 J r h; simp [F_X0_firstFreeFrom_2] at h
  | succ n ih =>
    intro l0 l1 l2 J r h
    rw [F_X0_firstFreeFrom_2] at h
    refine ev_iload_n zo_13_2 rfl rfl rfl ?_
    refine ev_bipush (x := 24) zo_13_3 (by decide) rfl ?_
    by_cases c1 : l2 < (24 : Int32)
    · rw [if_pos c1] at h
      refine ev_cmp_f (t := 35) zo_13_5 rfl (zcm_nge c1) rfl ?_
      refine ev_aload_n zo_13_8 rfl rfl rfl rfl ?_
      refine ev_iload_n zo_13_9 rfl rfl rfl ?_
      refine ev_iload_n zo_13_10 rfl rfl rfl ?_
      refine ev_iadd zo_13_11 rfl ?_
      refine ev_bipush (x := 24) zo_13_12 (by decide) rfl ?_
      refine ev_irem zo_13_14 (by decide) rfl ?_
      obtain ⟨c2, h⟩ := zz_chk h
      obtain ⟨q3, hq3, h⟩ := zz_bd h
      refine ev_cV (as := [.int (zRem (l1 + l2) (24 : Int32))]) (lsn := [.ref l0, .int (zRem (l1 + l2) (24 : Int32))]) (by omega) zo_13_15 zl_13_67 (by rw [zm_9]; rfl) (by rw [zm_9]; exact c2) (by rw [zm_9]; decide) (by unfold zzIn; rw [zm_9]; rfl) (by rw [zm_9]; exact Nat.le_of_ble_eq_true rfl) (Nat.le_of_ble_eq_true rfl) (G_X0_sitterAt (by omega) l0 (zRem (l1 + l2) (24 : Int32)) J q3 hq3) rfl ?_
      show zzEv _ _ _ _ [.int q3.1] _ _
      refine ev_iconst (x := (-1)) zo_13_18 (by decide) rfl ?_
      by_cases c4 : q3.1 = (-1 : Int32)
      · rw [if_pos c4] at h
        refine ev_cmp_f (t := 29) zo_13_19 rfl (zcm_nne c4) rfl ?_
        refine ev_iload_n zo_13_22 rfl rfl rfl ?_
        refine ev_iload_n zo_13_23 rfl rfl rfl ?_
        refine ev_iadd zo_13_24 rfl ?_
        refine ev_bipush (x := 24) zo_13_25 (by decide) rfl ?_
        refine ev_irem zo_13_27 (by decide) rfl ?_
        obtain rfl := Option.some.inj h
        exact ev_retI zo_13_28 zr_13
      rw [if_neg c4] at h
      refine ev_cmp_t (t := 29) zo_13_19 rfl (zcm_ne c4) ?_
      refine ev_iinc (v := 1) zo_13_29 rfl (by decide) (zz_set rfl (by decide) (Nat.le_of_ble_eq_true rfl)) rfl ?_
      show zzEv _ _ _ [.ref l0, .int l1, .int (l2 + 1)] _ _ _
      refine ev_goto (t := 2) zo_13_32 rfl ?_
      exact ih l0 l1 (l2 + 1) q3.2 r h
    rw [if_neg c1] at h
    refine ev_cmp_t (t := 35) zo_13_5 rfl (zcm_ge c1) ?_
    refine ev_iconst (x := (-1)) zo_13_35 (by decide) rfl ?_
    obtain rfl := Option.some.inj h
    exact ev_retI zo_13_36 zr_13
def F_X0_firstFreeFrom (x0 : Nat) (x1 : Int32) (J : zzJ) : Option (Int32 × zzJ) := F_X0_firstFreeFrom_2 4096 x0 x1 (0 : Int32) J
set_option maxRecDepth 100000 in
set_option maxHeartbeats 2000000 in
theorem G_X0_firstFreeFrom {d : Nat} (hd : 1 ≤ d) (x0 : Nat) (x1 : Int32) (J : zzJ) (r : Int32 × zzJ) (h : F_X0_firstFreeFrom x0 x1 J = some r) : zzEv d 13 0 [.ref x0, .int x1, zzU] [] (zK J) (some (.int r.1), zK r.2) := by
  unfold F_X0_firstFreeFrom at h
  refine ev_iconst (x := 0) zo_13_0 (by decide) rfl ?_
  refine ev_istore_n zo_13_1 rfl (zz_set rfl (by decide) (Nat.le_of_ble_eq_true rfl)) rfl ?_
  show zzEv _ _ _ [.ref x0, .int x1, .int (0 : Int32)] _ _ _
  exact G_X0_firstFreeFrom_2 hd 4096 x0 x1 (0 : Int32) J r h
/-! X0_firstFreeInFront -/
def F_X0_firstFreeInFront (x0 : Nat) (J : zzJ) : Option (Int32 × zzJ) := (if zKd x0 = 0 then (Option.bind (F_X0_firstFreeFrom x0 (0 : Int32) J) fun q2 => (if q2.1 < (4 : Int32) then some (q2.1, q2.2) else some ((-1 : Int32), q2.2))) else none)
set_option maxRecDepth 100000 in
set_option maxHeartbeats 2000000 in
theorem G_X0_firstFreeInFront {d : Nat} (hd : 2 ≤ d) (x0 : Nat) (J : zzJ) (r : Int32 × zzJ) (h : F_X0_firstFreeInFront x0 J = some r) : zzEv d 14 0 [.ref x0, zzU] [] (zK J) (some (.int r.1), zK r.2) := by
  unfold F_X0_firstFreeInFront at h
  refine ev_aload_n zo_14_0 rfl rfl rfl rfl ?_
  refine ev_iconst (x := 0) zo_14_1 (by decide) rfl ?_
  obtain ⟨c1, h⟩ := zz_chk h
  obtain ⟨q2, hq2, h⟩ := zz_bd h
  refine ev_cV (as := [.int (0 : Int32)]) (lsn := [.ref x0, .int (0 : Int32), zzU]) (by omega) zo_14_2 zl_14_74 (by rw [zm_13]; rfl) (by rw [zm_13]; exact c1) (by rw [zm_13]; decide) (by unfold zzIn; rw [zm_13]; rfl) (by rw [zm_13]; exact Nat.le_of_ble_eq_true rfl) (Nat.le_of_ble_eq_true rfl) (G_X0_firstFreeFrom (by omega) x0 (0 : Int32) J q2 hq2) rfl ?_
  show zzEv _ _ _ _ [.int q2.1] _ _
  refine ev_istore_n zo_14_5 rfl (zz_set rfl (by decide) (Nat.le_of_ble_eq_true rfl)) rfl ?_
  show zzEv _ _ _ [.ref x0, .int q2.1] _ _ _
  refine ev_iload_n zo_14_6 rfl rfl rfl ?_
  refine ev_iconst (x := 4) zo_14_7 (by decide) rfl ?_
  by_cases c3 : q2.1 < (4 : Int32)
  · rw [if_pos c3] at h
    refine ev_cmp_f (t := 15) zo_14_8 rfl (zcm_nge c3) rfl ?_
    refine ev_iload_n zo_14_11 rfl rfl rfl ?_
    refine ev_goto (t := 16) zo_14_12 rfl ?_
    obtain rfl := Option.some.inj h
    exact ev_retI zo_14_16 zr_14
  rw [if_neg c3] at h
  refine ev_cmp_t (t := 15) zo_14_8 rfl (zcm_ge c3) ?_
  refine ev_iconst (x := (-1)) zo_14_15 (by decide) rfl ?_
  obtain rfl := Option.some.inj h
  exact ev_retI zo_14_16 zr_14
/-! X0_isTeacher -/
def F_X0_isTeacher (x0 : Nat) (x1 : Int32) (J : zzJ) : Option (Int32 × zzJ) := (if zKd x0 = 0 then (Option.bind (F_X0_has x0 x1 J) fun q2 => (if q2.1 = (0 : Int32) then some ((0 : Int32), q2.2) else (Option.bind (zMR x0 5) fun b4 => (Option.bind (F_X6_itemAt b4 x1 q2.2) fun q5 => (if q5.1 = (5 : Int32) then some ((1 : Int32), q5.2) else some ((0 : Int32), q5.2)))))) else none)
set_option maxRecDepth 100000 in
set_option maxHeartbeats 2000000 in
theorem G_X0_isTeacher {d : Nat} (hd : 1 ≤ d) (x0 : Nat) (x1 : Int32) (J : zzJ) (r : Int32 × zzJ) (h : F_X0_isTeacher x0 x1 J = some r) : zzEv d 19 0 [.ref x0, .int x1] [] (zK J) (some (.int r.1), zK r.2) := by
  unfold F_X0_isTeacher at h
  refine ev_aload_n zo_19_0 rfl rfl rfl rfl ?_
  refine ev_iload_n zo_19_1 rfl rfl rfl ?_
  obtain ⟨c1, h⟩ := zz_chk h
  obtain ⟨q2, hq2, h⟩ := zz_bd h
  refine ev_cV (as := [.int x1]) (lsn := [.ref x0, .int x1]) (by omega) zo_19_2 zl_19_90 (by rw [zm_2]; rfl) (by rw [zm_2]; exact c1) (by rw [zm_2]; decide) (by unfold zzIn; rw [zm_2]; rfl) (by rw [zm_2]; exact Nat.le_of_ble_eq_true rfl) (Nat.le_of_ble_eq_true rfl) (G_X0_has (by omega) x0 x1 J q2 hq2) rfl ?_
  show zzEv _ _ _ _ [.int q2.1] _ _
  by_cases c3 : q2.1 = (0 : Int32)
  · rw [if_pos c3] at h
    refine ev_if_t (t := 24) zo_19_5 rfl (zcm_eq c3) ?_
    refine ev_iconst (x := 0) zo_19_24 (by decide) rfl ?_
    obtain rfl := Option.some.inj h
    exact ev_retZ zo_19_25 zr_19 (Or.inl rfl)
  rw [if_neg c3] at h
  refine ev_if_f (t := 24) zo_19_5 rfl (zcm_neq c3) rfl ?_
  refine ev_aload_n zo_19_8 rfl rfl rfl rfl ?_
  obtain ⟨b4, eb4, h⟩ := zz_bd h
  refine ev_getR zo_19_9 zf_19_28 (by decide) rfl c1 eb4 rfl ?_
  refine ev_iload_n zo_19_12 rfl rfl rfl ?_
  obtain ⟨q5, hq5, h⟩ := zz_bd h
  refine ev_cS (as := [.int x1, .ref b4]) (lsn := [.ref b4, .int x1]) (by omega) zo_19_13 zl_19_59 (by decide) (by rw [zm_125]; rfl) (by unfold zzIn; rw [zm_125]; rfl) (by rw [zm_125]; exact Nat.le_of_ble_eq_true rfl) (Nat.le_of_ble_eq_true rfl) (G_X6_itemAt (by omega) b4 x1 q2.2 q5 hq5) rfl ?_
  show zzEv _ _ _ _ [.int q5.1] _ _
  refine ev_iconst (x := 5) zo_19_16 (by decide) rfl ?_
  by_cases c6 : q5.1 = (5 : Int32)
  · rw [if_pos c6] at h
    refine ev_cmp_f (t := 24) zo_19_17 rfl (zcm_nne c6) rfl ?_
    refine ev_iconst (x := 1) zo_19_20 (by decide) rfl ?_
    refine ev_goto (t := 25) zo_19_21 rfl ?_
    obtain rfl := Option.some.inj h
    exact ev_retZ zo_19_25 zr_19 (Or.inr rfl)
  rw [if_neg c6] at h
  refine ev_cmp_t (t := 24) zo_19_17 rfl (zcm_ne c6) ?_
  refine ev_iconst (x := 0) zo_19_24 (by decide) rfl ?_
  obtain rfl := Option.some.inj h
  exact ev_retZ zo_19_25 zr_19 (Or.inl rfl)
/-! X0_firstTeacher -/
def F_X0_firstTeacher_2 : Nat → Nat → Int32 → zzJ → Option (Int32 × zzJ)
  | 0, _, _, _ => none
  | n + 1, l0, l1, J => (if zKd l0 = 0 then (if l1 < (J.2 l0 4) then (Option.bind (F_X0_sits l0 l1 J) fun q3 => (if q3.1 = (0 : Int32) then F_X0_firstTeacher_2 n l0 (l1 + 1) q3.2 else (Option.bind (F_X0_isTeacher l0 l1 q3.2) fun q5 => (if q5.1 = (0 : Int32) then F_X0_firstTeacher_2 n l0 (l1 + 1) q5.2 else some (l1, q5.2))))) else some ((-1 : Int32), J)) else none)
set_option maxRecDepth 100000 in
set_option maxHeartbeats 2000000 in
theorem G_X0_firstTeacher_2 {d : Nat} (hd : 2 ≤ d) : ∀ (n : Nat) (l0 : Nat) (l1 : Int32) (J : zzJ) (r : Int32 × zzJ), F_X0_firstTeacher_2 n l0 l1 J = some r → zzEv d 15 2 [.ref l0, .int l1] [] (zK J) (some (.int r.1), zK r.2) := by
  intro n
  induction n with
  | zero => intro l0 l1 J r h; simp [F_X0_firstTeacher_2] at h
  | succ n ih =>
    intro l0 l1 J r h
    rw [F_X0_firstTeacher_2] at h
    refine ev_iload_n zo_15_2 rfl rfl rfl ?_
    refine ev_aload_n zo_15_3 rfl rfl rfl rfl ?_
    obtain ⟨c1, h⟩ := zz_chk h
    refine ev_getI zo_15_4 zf_15_25 (by decide) (Or.inl rfl) c1 rfl ?_
    by_cases c2 : l1 < (J.2 l0 4)
    · rw [if_pos c2] at h
      refine ev_cmp_f (t := 34) zo_15_7 rfl (zcm_nge c2) rfl ?_
      refine ev_aload_n zo_15_10 rfl rfl rfl rfl ?_
      refine ev_iload_n zo_15_11 rfl rfl rfl ?_
      obtain ⟨q3, hq3, h⟩ := zz_bd h
      refine ev_cV (as := [.int l1]) (lsn := [.ref l0, .int l1]) (by omega) zo_15_12 zl_15_77 (by rw [zm_8]; rfl) (by rw [zm_8]; exact c1) (by rw [zm_8]; decide) (by unfold zzIn; rw [zm_8]; rfl) (by rw [zm_8]; exact Nat.le_of_ble_eq_true rfl) (Nat.le_of_ble_eq_true rfl) (G_X0_sits (by omega) l0 l1 J q3 hq3) rfl ?_
      show zzEv _ _ _ _ [.int q3.1] _ _
      by_cases c4 : q3.1 = (0 : Int32)
      · rw [if_pos c4] at h
        refine ev_if_t (t := 28) zo_15_15 rfl (zcm_eq c4) ?_
        refine ev_iinc (v := 1) zo_15_28 rfl (by decide) (zz_set rfl (by decide) (Nat.le_of_ble_eq_true rfl)) rfl ?_
        show zzEv _ _ _ [.ref l0, .int (l1 + 1)] _ _ _
        refine ev_goto (t := 2) zo_15_31 rfl ?_
        exact ih l0 (l1 + 1) q3.2 r h
      rw [if_neg c4] at h
      refine ev_if_f (t := 28) zo_15_15 rfl (zcm_neq c4) rfl ?_
      refine ev_aload_n zo_15_18 rfl rfl rfl rfl ?_
      refine ev_iload_n zo_15_19 rfl rfl rfl ?_
      obtain ⟨q5, hq5, h⟩ := zz_bd h
      refine ev_cV (as := [.int l1]) (lsn := [.ref l0, .int l1]) (by omega) zo_15_20 zl_15_81 (by rw [zm_19]; rfl) (by rw [zm_19]; exact c1) (by rw [zm_19]; decide) (by unfold zzIn; rw [zm_19]; rfl) (by rw [zm_19]; exact Nat.le_of_ble_eq_true rfl) (Nat.le_of_ble_eq_true rfl) (G_X0_isTeacher (by omega) l0 l1 q3.2 q5 hq5) rfl ?_
      show zzEv _ _ _ _ [.int q5.1] _ _
      by_cases c6 : q5.1 = (0 : Int32)
      · rw [if_pos c6] at h
        refine ev_if_t (t := 28) zo_15_23 rfl (zcm_eq c6) ?_
        refine ev_iinc (v := 1) zo_15_28 rfl (by decide) (zz_set rfl (by decide) (Nat.le_of_ble_eq_true rfl)) rfl ?_
        show zzEv _ _ _ [.ref l0, .int (l1 + 1)] _ _ _
        refine ev_goto (t := 2) zo_15_31 rfl ?_
        exact ih l0 (l1 + 1) q5.2 r h
      rw [if_neg c6] at h
      refine ev_if_f (t := 28) zo_15_23 rfl (zcm_neq c6) rfl ?_
      refine ev_iload_n zo_15_26 rfl rfl rfl ?_
      obtain rfl := Option.some.inj h
      exact ev_retI zo_15_27 zr_15
    rw [if_neg c2] at h
    refine ev_cmp_t (t := 34) zo_15_7 rfl (zcm_ge c2) ?_
    refine ev_iconst (x := (-1)) zo_15_34 (by decide) rfl ?_
    obtain rfl := Option.some.inj h
    exact ev_retI zo_15_35 zr_15
def F_X0_firstTeacher (x0 : Nat) (J : zzJ) : Option (Int32 × zzJ) := F_X0_firstTeacher_2 4096 x0 (0 : Int32) J
set_option maxRecDepth 100000 in
set_option maxHeartbeats 2000000 in
theorem G_X0_firstTeacher {d : Nat} (hd : 2 ≤ d) (x0 : Nat) (J : zzJ) (r : Int32 × zzJ) (h : F_X0_firstTeacher x0 J = some r) : zzEv d 15 0 [.ref x0, zzU] [] (zK J) (some (.int r.1), zK r.2) := by
  unfold F_X0_firstTeacher at h
  refine ev_iconst (x := 0) zo_15_0 (by decide) rfl ?_
  refine ev_istore_n zo_15_1 rfl (zz_set rfl (by decide) (Nat.le_of_ble_eq_true rfl)) rfl ?_
  show zzEv _ _ _ [.ref x0, .int (0 : Int32)] _ _ _
  exact G_X0_firstTeacher_2 hd 4096 x0 (0 : Int32) J r h
/-! X6_pairSeat -/
def F_X6_pairSeat (x0 : Int32) (J : zzJ) : Option (Int32 × zzJ) := (if x0 = (-1 : Int32) then some ((-1 : Int32), J) else (if (zRem x0 (2 : Int32)) = (0 : Int32) then some ((x0 + (1 : Int32)), J) else some ((x0 - (1 : Int32)), J)))
set_option maxRecDepth 100000 in
set_option maxHeartbeats 2000000 in
theorem G_X6_pairSeat {d : Nat} (hd : 0 ≤ d) (x0 : Int32) (J : zzJ) (r : Int32 × zzJ) (h : F_X6_pairSeat x0 J = some r) : zzEv d 130 0 [.int x0] [] (zK J) (some (.int r.1), zK r.2) := by
  unfold F_X6_pairSeat at h
  refine ev_iload_n zo_130_0 rfl rfl rfl ?_
  refine ev_iconst (x := (-1)) zo_130_1 (by decide) rfl ?_
  by_cases c1 : x0 = (-1 : Int32)
  · rw [if_pos c1] at h
    refine ev_cmp_f (t := 9) zo_130_2 rfl (zcm_nne c1) rfl ?_
    refine ev_iconst (x := (-1)) zo_130_5 (by decide) rfl ?_
    refine ev_goto (t := 24) zo_130_6 rfl ?_
    obtain rfl := Option.some.inj h
    exact ev_retI zo_130_24 zr_130
  rw [if_neg c1] at h
  refine ev_cmp_t (t := 9) zo_130_2 rfl (zcm_ne c1) ?_
  refine ev_iload_n zo_130_9 rfl rfl rfl ?_
  refine ev_iconst (x := 2) zo_130_10 (by decide) rfl ?_
  refine ev_irem zo_130_11 (by decide) rfl ?_
  by_cases c2 : (zRem x0 (2 : Int32)) = (0 : Int32)
  · rw [if_pos c2] at h
    refine ev_if_f (t := 21) zo_130_12 rfl (zcm_nne c2) rfl ?_
    refine ev_iload_n zo_130_15 rfl rfl rfl ?_
    refine ev_iconst (x := 1) zo_130_16 (by decide) rfl ?_
    refine ev_iadd zo_130_17 rfl ?_
    refine ev_goto (t := 24) zo_130_18 rfl ?_
    obtain rfl := Option.some.inj h
    exact ev_retI zo_130_24 zr_130
  rw [if_neg c2] at h
  refine ev_if_t (t := 21) zo_130_12 rfl (zcm_ne c2) ?_
  refine ev_iload_n zo_130_21 rfl rfl rfl ?_
  refine ev_iconst (x := 1) zo_130_22 (by decide) rfl ?_
  refine ev_isub zo_130_23 rfl ?_
  obtain rfl := Option.some.inj h
  exact ev_retI zo_130_24 zr_130
/-! X6_crossSeat -/
def F_X6_crossSeat (x0 : Int32) (J : zzJ) : Option (Int32 × zzJ) := (if x0 = (21 : Int32) then some ((22 : Int32), J) else (if x0 = (22 : Int32) then some ((21 : Int32), J) else some ((-1 : Int32), J)))
set_option maxRecDepth 100000 in
set_option maxHeartbeats 2000000 in
theorem G_X6_crossSeat {d : Nat} (hd : 0 ≤ d) (x0 : Int32) (J : zzJ) (r : Int32 × zzJ) (h : F_X6_crossSeat x0 J = some r) : zzEv d 131 0 [.int x0] [] (zK J) (some (.int r.1), zK r.2) := by
  unfold F_X6_crossSeat at h
  refine ev_iload_n zo_131_0 rfl rfl rfl ?_
  refine ev_bipush (x := 21) zo_131_1 (by decide) rfl ?_
  by_cases c1 : x0 = (21 : Int32)
  · rw [if_pos c1] at h
    refine ev_cmp_f (t := 11) zo_131_3 rfl (zcm_nne c1) rfl ?_
    refine ev_bipush (x := 22) zo_131_6 (by decide) rfl ?_
    refine ev_goto (t := 23) zo_131_8 rfl ?_
    obtain rfl := Option.some.inj h
    exact ev_retI zo_131_23 zr_131
  rw [if_neg c1] at h
  refine ev_cmp_t (t := 11) zo_131_3 rfl (zcm_ne c1) ?_
  refine ev_iload_n zo_131_11 rfl rfl rfl ?_
  refine ev_bipush (x := 22) zo_131_12 (by decide) rfl ?_
  by_cases c2 : x0 = (22 : Int32)
  · rw [if_pos c2] at h
    refine ev_cmp_f (t := 22) zo_131_14 rfl (zcm_nne c2) rfl ?_
    refine ev_bipush (x := 21) zo_131_17 (by decide) rfl ?_
    refine ev_goto (t := 23) zo_131_19 rfl ?_
    obtain rfl := Option.some.inj h
    exact ev_retI zo_131_23 zr_131
  rw [if_neg c2] at h
  refine ev_cmp_t (t := 22) zo_131_14 rfl (zcm_ne c2) ?_
  refine ev_iconst (x := (-1)) zo_131_22 (by decide) rfl ?_
  obtain rfl := Option.some.inj h
  exact ev_retI zo_131_23 zr_131
/-! X0_areBeside -/
def F_X0_areBeside (x0 : Nat) (x1 : Int32) (x2 : Int32) (J : zzJ) : Option (Int32 × zzJ) := (if zKd x0 = 0 then (Option.bind (F_X0_seatOf x0 x1 J) fun q2 => (Option.bind (F_X0_seatOf x0 x2 q2.2) fun q3 => (if q3.1 = (-1 : Int32) then some ((0 : Int32), q3.2) else (Option.bind (F_X6_pairSeat q2.1 q3.2) fun q5 => (if q5.1 = q3.1 then some ((1 : Int32), q5.2) else (Option.bind (F_X6_crossSeat q2.1 q5.2) fun q7 => (if q7.1 = q3.1 then some ((1 : Int32), q7.2) else some ((0 : Int32), q7.2)))))))) else none)
set_option maxRecDepth 100000 in
set_option maxHeartbeats 2000000 in
theorem G_X0_areBeside {d : Nat} (hd : 1 ≤ d) (x0 : Nat) (x1 : Int32) (x2 : Int32) (J : zzJ) (r : Int32 × zzJ) (h : F_X0_areBeside x0 x1 x2 J = some r) : zzEv d 16 0 [.ref x0, .int x1, .int x2, zzU, zzU] [] (zK J) (some (.int r.1), zK r.2) := by
  unfold F_X0_areBeside at h
  refine ev_aload_n zo_16_0 rfl rfl rfl rfl ?_
  refine ev_iload_n zo_16_1 rfl rfl rfl ?_
  obtain ⟨c1, h⟩ := zz_chk h
  obtain ⟨q2, hq2, h⟩ := zz_bd h
  refine ev_cV (as := [.int x1]) (lsn := [.ref x0, .int x1]) (by omega) zo_16_2 zl_16_63 (by rw [zm_7]; rfl) (by rw [zm_7]; exact c1) (by rw [zm_7]; decide) (by unfold zzIn; rw [zm_7]; rfl) (by rw [zm_7]; exact Nat.le_of_ble_eq_true rfl) (Nat.le_of_ble_eq_true rfl) (G_X0_seatOf (by omega) x0 x1 J q2 hq2) rfl ?_
  show zzEv _ _ _ _ [.int q2.1] _ _
  refine ev_istore_n zo_16_5 rfl (zz_set rfl (by decide) (Nat.le_of_ble_eq_true rfl)) rfl ?_
  show zzEv _ _ _ [.ref x0, .int x1, .int x2, .int q2.1, zzU] _ _ _
  refine ev_aload_n zo_16_6 rfl rfl rfl rfl ?_
  refine ev_iload_n zo_16_7 rfl rfl rfl ?_
  obtain ⟨q3, hq3, h⟩ := zz_bd h
  refine ev_cV (as := [.int x2]) (lsn := [.ref x0, .int x2]) (by omega) zo_16_8 zl_16_63 (by rw [zm_7]; rfl) (by rw [zm_7]; exact c1) (by rw [zm_7]; decide) (by unfold zzIn; rw [zm_7]; rfl) (by rw [zm_7]; exact Nat.le_of_ble_eq_true rfl) (Nat.le_of_ble_eq_true rfl) (G_X0_seatOf (by omega) x0 x2 q2.2 q3 hq3) rfl ?_
  show zzEv _ _ _ _ [.int q3.1] _ _
  refine ev_istore zo_16_11 (zz_set rfl (by decide) (Nat.le_of_ble_eq_true rfl)) rfl ?_
  show zzEv _ _ _ [.ref x0, .int x1, .int x2, .int q2.1, .int q3.1] _ _ _
  refine ev_iload zo_16_13 rfl rfl ?_
  refine ev_iconst (x := (-1)) zo_16_15 (by decide) rfl ?_
  by_cases c4 : q3.1 = (-1 : Int32)
  · rw [if_pos c4] at h
    refine ev_cmp_t (t := 41) zo_16_16 rfl (zcm_eq c4) ?_
    refine ev_iconst (x := 0) zo_16_41 (by decide) rfl ?_
    obtain rfl := Option.some.inj h
    exact ev_retZ zo_16_42 zr_16 (Or.inl rfl)
  rw [if_neg c4] at h
  refine ev_cmp_f (t := 41) zo_16_16 rfl (zcm_neq c4) rfl ?_
  refine ev_iload_n zo_16_19 rfl rfl rfl ?_
  obtain ⟨q5, hq5, h⟩ := zz_bd h
  refine ev_cS (as := [.int q2.1]) (lsn := [.int q2.1]) (by omega) zo_16_20 zl_16_84 (by decide) (by rw [zm_130]; rfl) (by unfold zzIn; rw [zm_130]; rfl) (by rw [zm_130]; exact Nat.le_of_ble_eq_true rfl) (Nat.le_of_ble_eq_true rfl) (G_X6_pairSeat (by omega) q2.1 q3.2 q5 hq5) rfl ?_
  show zzEv _ _ _ _ [.int q5.1] _ _
  refine ev_iload zo_16_23 rfl rfl ?_
  by_cases c6 : q5.1 = q3.1
  · rw [if_pos c6] at h
    refine ev_cmp_t (t := 37) zo_16_25 rfl (zcm_eq c6) ?_
    refine ev_iconst (x := 1) zo_16_37 (by decide) rfl ?_
    refine ev_goto (t := 42) zo_16_38 rfl ?_
    obtain rfl := Option.some.inj h
    exact ev_retZ zo_16_42 zr_16 (Or.inr rfl)
  rw [if_neg c6] at h
  refine ev_cmp_f (t := 37) zo_16_25 rfl (zcm_neq c6) rfl ?_
  refine ev_iload_n zo_16_28 rfl rfl rfl ?_
  obtain ⟨q7, hq7, h⟩ := zz_bd h
  refine ev_cS (as := [.int q2.1]) (lsn := [.int q2.1]) (by omega) zo_16_29 zl_16_87 (by decide) (by rw [zm_131]; rfl) (by unfold zzIn; rw [zm_131]; rfl) (by rw [zm_131]; exact Nat.le_of_ble_eq_true rfl) (Nat.le_of_ble_eq_true rfl) (G_X6_crossSeat (by omega) q2.1 q5.2 q7 hq7) rfl ?_
  show zzEv _ _ _ _ [.int q7.1] _ _
  refine ev_iload zo_16_32 rfl rfl ?_
  by_cases c8 : q7.1 = q3.1
  · rw [if_pos c8] at h
    refine ev_cmp_f (t := 41) zo_16_34 rfl (zcm_nne c8) rfl ?_
    refine ev_iconst (x := 1) zo_16_37 (by decide) rfl ?_
    refine ev_goto (t := 42) zo_16_38 rfl ?_
    obtain rfl := Option.some.inj h
    exact ev_retZ zo_16_42 zr_16 (Or.inr rfl)
  rw [if_neg c8] at h
  refine ev_cmp_t (t := 41) zo_16_34 rfl (zcm_ne c8) ?_
  refine ev_iconst (x := 0) zo_16_41 (by decide) rfl ?_
  obtain rfl := Option.some.inj h
  exact ev_retZ zo_16_42 zr_16 (Or.inl rfl)
/-! X0_neighbours -/
def F_X0_neighbours_35 (l4 : Int32) (t0 : Int32) (J : zzJ) : Option (Int32 × zzJ) := (if l4 = (-1 : Int32) then some ((t0 + (0 : Int32)), J) else some ((t0 + (1 : Int32)), J))
set_option maxRecDepth 100000 in
set_option maxHeartbeats 2000000 in
theorem G_X0_neighbours_35 {d : Nat} (hd : 1 ≤ d) : ∀ (l4 : Int32) (t0 : Int32) (J : zzJ) (r : Int32 × zzJ), F_X0_neighbours_35 l4 t0 J = some r → ∀ (lv0 : Value) (hlv0 : lv0.category = 1), ∀ (lv1 : Value) (hlv1 : lv1.category = 1), ∀ (lv2 : Value) (hlv2 : lv2.category = 1), ∀ (lv3 : Value) (hlv3 : lv3.category = 1), zzEv d 17 35 [lv0, lv1, lv2, lv3, .int l4] [.int t0] (zK J) (some (.int r.1), zK r.2) := by
  intro l4 t0 J r h lv0 hlv0 lv1 hlv1 lv2 hlv2 lv3 hlv3
  unfold F_X0_neighbours_35 at h
  refine ev_iload zo_17_35 rfl rfl ?_
  refine ev_iconst (x := (-1)) zo_17_37 (by decide) rfl ?_
  by_cases c1 : l4 = (-1 : Int32)
  · rw [if_pos c1] at h
    refine ev_cmp_f (t := 45) zo_17_38 rfl (zcm_nne c1) rfl ?_
    refine ev_iconst (x := 0) zo_17_41 (by decide) rfl ?_
    refine ev_goto (t := 46) zo_17_42 rfl ?_
    refine ev_iadd zo_17_46 rfl ?_
    obtain rfl := Option.some.inj h
    exact ev_retI zo_17_47 zr_17
  rw [if_neg c1] at h
  refine ev_cmp_t (t := 45) zo_17_38 rfl (zcm_ne c1) ?_
  refine ev_iconst (x := 1) zo_17_45 (by decide) rfl ?_
  refine ev_iadd zo_17_46 rfl ?_
  obtain rfl := Option.some.inj h
  exact ev_retI zo_17_47 zr_17
def F_X0_neighbours (x0 : Nat) (x1 : Int32) (J : zzJ) : Option (Int32 × zzJ) := (if zKd x0 = 0 then (Option.bind (F_X0_seatOf x0 x1 J) fun q3 => (Option.bind (F_X6_pairSeat q3.1 q3.2) fun q4 => (Option.bind (F_X0_sitterAt x0 q4.1 q4.2) fun q5 => (Option.bind (F_X6_crossSeat q3.1 q5.2) fun q6 => (Option.bind (F_X0_sitterAt x0 q6.1 q6.2) fun q7 => (if q5.1 = (-1 : Int32) then F_X0_neighbours_35 q7.1 (0 : Int32) q7.2 else F_X0_neighbours_35 q7.1 (1 : Int32) q7.2)))))) else none)
set_option maxRecDepth 100000 in
set_option maxHeartbeats 2000000 in
theorem G_X0_neighbours {d : Nat} (hd : 1 ≤ d) (x0 : Nat) (x1 : Int32) (J : zzJ) (r : Int32 × zzJ) (h : F_X0_neighbours x0 x1 J = some r) : zzEv d 17 0 [.ref x0, .int x1, zzU, zzU, zzU] [] (zK J) (some (.int r.1), zK r.2) := by
  unfold F_X0_neighbours at h
  refine ev_aload_n zo_17_0 rfl rfl rfl rfl ?_
  refine ev_iload_n zo_17_1 rfl rfl rfl ?_
  obtain ⟨c2, h⟩ := zz_chk h
  obtain ⟨q3, hq3, h⟩ := zz_bd h
  refine ev_cV (as := [.int x1]) (lsn := [.ref x0, .int x1]) (by omega) zo_17_2 zl_17_63 (by rw [zm_7]; rfl) (by rw [zm_7]; exact c2) (by rw [zm_7]; decide) (by unfold zzIn; rw [zm_7]; rfl) (by rw [zm_7]; exact Nat.le_of_ble_eq_true rfl) (Nat.le_of_ble_eq_true rfl) (G_X0_seatOf (by omega) x0 x1 J q3 hq3) rfl ?_
  show zzEv _ _ _ _ [.int q3.1] _ _
  refine ev_istore_n zo_17_5 rfl (zz_set rfl (by decide) (Nat.le_of_ble_eq_true rfl)) rfl ?_
  show zzEv _ _ _ [.ref x0, .int x1, .int q3.1, zzU, zzU] _ _ _
  refine ev_aload_n zo_17_6 rfl rfl rfl rfl ?_
  refine ev_iload_n zo_17_7 rfl rfl rfl ?_
  obtain ⟨q4, hq4, h⟩ := zz_bd h
  refine ev_cS (as := [.int q3.1]) (lsn := [.int q3.1]) (by omega) zo_17_8 zl_17_84 (by decide) (by rw [zm_130]; rfl) (by unfold zzIn; rw [zm_130]; rfl) (by rw [zm_130]; exact Nat.le_of_ble_eq_true rfl) (Nat.le_of_ble_eq_true rfl) (G_X6_pairSeat (by omega) q3.1 q3.2 q4 hq4) rfl ?_
  show zzEv _ _ _ _ [.int q4.1, .ref x0] _ _
  obtain ⟨q5, hq5, h⟩ := zz_bd h
  refine ev_cV (as := [.int q4.1]) (lsn := [.ref x0, .int q4.1]) (by omega) zo_17_11 zl_17_67 (by rw [zm_9]; rfl) (by rw [zm_9]; exact c2) (by rw [zm_9]; decide) (by unfold zzIn; rw [zm_9]; rfl) (by rw [zm_9]; exact Nat.le_of_ble_eq_true rfl) (Nat.le_of_ble_eq_true rfl) (G_X0_sitterAt (by omega) x0 q4.1 q4.2 q5 hq5) rfl ?_
  show zzEv _ _ _ _ [.int q5.1] _ _
  refine ev_istore_n zo_17_14 rfl (zz_set rfl (by decide) (Nat.le_of_ble_eq_true rfl)) rfl ?_
  show zzEv _ _ _ [.ref x0, .int x1, .int q3.1, .int q5.1, zzU] _ _ _
  refine ev_aload_n zo_17_15 rfl rfl rfl rfl ?_
  refine ev_iload_n zo_17_16 rfl rfl rfl ?_
  obtain ⟨q6, hq6, h⟩ := zz_bd h
  refine ev_cS (as := [.int q3.1]) (lsn := [.int q3.1]) (by omega) zo_17_17 zl_17_87 (by decide) (by rw [zm_131]; rfl) (by unfold zzIn; rw [zm_131]; rfl) (by rw [zm_131]; exact Nat.le_of_ble_eq_true rfl) (Nat.le_of_ble_eq_true rfl) (G_X6_crossSeat (by omega) q3.1 q5.2 q6 hq6) rfl ?_
  show zzEv _ _ _ _ [.int q6.1, .ref x0] _ _
  obtain ⟨q7, hq7, h⟩ := zz_bd h
  refine ev_cV (as := [.int q6.1]) (lsn := [.ref x0, .int q6.1]) (by omega) zo_17_20 zl_17_67 (by rw [zm_9]; rfl) (by rw [zm_9]; exact c2) (by rw [zm_9]; decide) (by unfold zzIn; rw [zm_9]; rfl) (by rw [zm_9]; exact Nat.le_of_ble_eq_true rfl) (Nat.le_of_ble_eq_true rfl) (G_X0_sitterAt (by omega) x0 q6.1 q6.2 q7 hq7) rfl ?_
  show zzEv _ _ _ _ [.int q7.1] _ _
  refine ev_istore zo_17_23 (zz_set rfl (by decide) (Nat.le_of_ble_eq_true rfl)) rfl ?_
  show zzEv _ _ _ [.ref x0, .int x1, .int q3.1, .int q5.1, .int q7.1] _ _ _
  refine ev_iload_n zo_17_25 rfl rfl rfl ?_
  refine ev_iconst (x := (-1)) zo_17_26 (by decide) rfl ?_
  by_cases c8 : q5.1 = (-1 : Int32)
  · rw [if_pos c8] at h
    refine ev_cmp_f (t := 34) zo_17_27 rfl (zcm_nne c8) rfl ?_
    refine ev_iconst (x := 0) zo_17_30 (by decide) rfl ?_
    refine ev_goto (t := 35) zo_17_31 rfl ?_
    exact G_X0_neighbours_35 hd q7.1 (0 : Int32) q7.2 r h (.ref x0) rfl (.int x1) rfl (.int q3.1) rfl (.int q5.1) rfl
  rw [if_neg c8] at h
  refine ev_cmp_t (t := 34) zo_17_27 rfl (zcm_ne c8) ?_
  refine ev_iconst (x := 1) zo_17_34 (by decide) rfl ?_
  exact G_X0_neighbours_35 hd q7.1 (1 : Int32) q7.2 r h (.ref x0) rfl (.int x1) rfl (.int q3.1) rfl (.int q5.1) rfl
/-! X0_isWatched -/
def F_X0_isWatched (x0 : Nat) (x1 : Int32) (J : zzJ) : Option (Int32 × zzJ) := (if zKd x0 = 0 then (Option.bind (F_X0_seatOf x0 x1 J) fun q2 => (Option.bind (F_X6_pairSeat q2.1 q2.2) fun q3 => (Option.bind (F_X0_sitterAt x0 q3.1 q3.2) fun q4 => (Option.bind (F_X0_isTeacher x0 q4.1 q4.2) fun q5 => (if q5.1 = (0 : Int32) then (Option.bind (F_X6_crossSeat q2.1 q5.2) fun q7 => (Option.bind (F_X0_sitterAt x0 q7.1 q7.2) fun q8 => (Option.bind (F_X0_isTeacher x0 q8.1 q8.2) fun q9 => (if q9.1 = (0 : Int32) then some ((0 : Int32), q9.2) else some ((1 : Int32), q9.2))))) else some ((1 : Int32), q5.2)))))) else none)
set_option maxRecDepth 100000 in
set_option maxHeartbeats 2000000 in
theorem G_X0_isWatched {d : Nat} (hd : 2 ≤ d) (x0 : Nat) (x1 : Int32) (J : zzJ) (r : Int32 × zzJ) (h : F_X0_isWatched x0 x1 J = some r) : zzEv d 18 0 [.ref x0, .int x1, zzU] [] (zK J) (some (.int r.1), zK r.2) := by
  unfold F_X0_isWatched at h
  refine ev_aload_n zo_18_0 rfl rfl rfl rfl ?_
  refine ev_iload_n zo_18_1 rfl rfl rfl ?_
  obtain ⟨c1, h⟩ := zz_chk h
  obtain ⟨q2, hq2, h⟩ := zz_bd h
  refine ev_cV (as := [.int x1]) (lsn := [.ref x0, .int x1]) (by omega) zo_18_2 zl_18_63 (by rw [zm_7]; rfl) (by rw [zm_7]; exact c1) (by rw [zm_7]; decide) (by unfold zzIn; rw [zm_7]; rfl) (by rw [zm_7]; exact Nat.le_of_ble_eq_true rfl) (Nat.le_of_ble_eq_true rfl) (G_X0_seatOf (by omega) x0 x1 J q2 hq2) rfl ?_
  show zzEv _ _ _ _ [.int q2.1] _ _
  refine ev_istore_n zo_18_5 rfl (zz_set rfl (by decide) (Nat.le_of_ble_eq_true rfl)) rfl ?_
  show zzEv _ _ _ [.ref x0, .int x1, .int q2.1] _ _ _
  refine ev_aload_n zo_18_6 rfl rfl rfl rfl ?_
  refine ev_aload_n zo_18_7 rfl rfl rfl rfl ?_
  refine ev_iload_n zo_18_8 rfl rfl rfl ?_
  obtain ⟨q3, hq3, h⟩ := zz_bd h
  refine ev_cS (as := [.int q2.1]) (lsn := [.int q2.1]) (by omega) zo_18_9 zl_18_84 (by decide) (by rw [zm_130]; rfl) (by unfold zzIn; rw [zm_130]; rfl) (by rw [zm_130]; exact Nat.le_of_ble_eq_true rfl) (Nat.le_of_ble_eq_true rfl) (G_X6_pairSeat (by omega) q2.1 q2.2 q3 hq3) rfl ?_
  show zzEv _ _ _ _ [.int q3.1, .ref x0, .ref x0] _ _
  obtain ⟨q4, hq4, h⟩ := zz_bd h
  refine ev_cV (as := [.int q3.1]) (lsn := [.ref x0, .int q3.1]) (by omega) zo_18_12 zl_18_67 (by rw [zm_9]; rfl) (by rw [zm_9]; exact c1) (by rw [zm_9]; decide) (by unfold zzIn; rw [zm_9]; rfl) (by rw [zm_9]; exact Nat.le_of_ble_eq_true rfl) (Nat.le_of_ble_eq_true rfl) (G_X0_sitterAt (by omega) x0 q3.1 q3.2 q4 hq4) rfl ?_
  show zzEv _ _ _ _ [.int q4.1, .ref x0] _ _
  obtain ⟨q5, hq5, h⟩ := zz_bd h
  refine ev_cV (as := [.int q4.1]) (lsn := [.ref x0, .int q4.1]) (by omega) zo_18_15 zl_18_81 (by rw [zm_19]; rfl) (by rw [zm_19]; exact c1) (by rw [zm_19]; decide) (by unfold zzIn; rw [zm_19]; rfl) (by rw [zm_19]; exact Nat.le_of_ble_eq_true rfl) (Nat.le_of_ble_eq_true rfl) (G_X0_isTeacher (by omega) x0 q4.1 q4.2 q5 hq5) rfl ?_
  show zzEv _ _ _ _ [.int q5.1] _ _
  by_cases c6 : q5.1 = (0 : Int32)
  · rw [if_pos c6] at h
    refine ev_if_f (t := 36) zo_18_18 rfl (zcm_nne c6) rfl ?_
    refine ev_aload_n zo_18_21 rfl rfl rfl rfl ?_
    refine ev_aload_n zo_18_22 rfl rfl rfl rfl ?_
    refine ev_iload_n zo_18_23 rfl rfl rfl ?_
    obtain ⟨q7, hq7, h⟩ := zz_bd h
    refine ev_cS (as := [.int q2.1]) (lsn := [.int q2.1]) (by omega) zo_18_24 zl_18_87 (by decide) (by rw [zm_131]; rfl) (by unfold zzIn; rw [zm_131]; rfl) (by rw [zm_131]; exact Nat.le_of_ble_eq_true rfl) (Nat.le_of_ble_eq_true rfl) (G_X6_crossSeat (by omega) q2.1 q5.2 q7 hq7) rfl ?_
    show zzEv _ _ _ _ [.int q7.1, .ref x0, .ref x0] _ _
    obtain ⟨q8, hq8, h⟩ := zz_bd h
    refine ev_cV (as := [.int q7.1]) (lsn := [.ref x0, .int q7.1]) (by omega) zo_18_27 zl_18_67 (by rw [zm_9]; rfl) (by rw [zm_9]; exact c1) (by rw [zm_9]; decide) (by unfold zzIn; rw [zm_9]; rfl) (by rw [zm_9]; exact Nat.le_of_ble_eq_true rfl) (Nat.le_of_ble_eq_true rfl) (G_X0_sitterAt (by omega) x0 q7.1 q7.2 q8 hq8) rfl ?_
    show zzEv _ _ _ _ [.int q8.1, .ref x0] _ _
    obtain ⟨q9, hq9, h⟩ := zz_bd h
    refine ev_cV (as := [.int q8.1]) (lsn := [.ref x0, .int q8.1]) (by omega) zo_18_30 zl_18_81 (by rw [zm_19]; rfl) (by rw [zm_19]; exact c1) (by rw [zm_19]; decide) (by unfold zzIn; rw [zm_19]; rfl) (by rw [zm_19]; exact Nat.le_of_ble_eq_true rfl) (Nat.le_of_ble_eq_true rfl) (G_X0_isTeacher (by omega) x0 q8.1 q8.2 q9 hq9) rfl ?_
    show zzEv _ _ _ _ [.int q9.1] _ _
    by_cases c10 : q9.1 = (0 : Int32)
    · rw [if_pos c10] at h
      refine ev_if_t (t := 40) zo_18_33 rfl (zcm_eq c10) ?_
      refine ev_iconst (x := 0) zo_18_40 (by decide) rfl ?_
      obtain rfl := Option.some.inj h
      exact ev_retZ zo_18_41 zr_18 (Or.inl rfl)
    rw [if_neg c10] at h
    refine ev_if_f (t := 40) zo_18_33 rfl (zcm_neq c10) rfl ?_
    refine ev_iconst (x := 1) zo_18_36 (by decide) rfl ?_
    refine ev_goto (t := 41) zo_18_37 rfl ?_
    obtain rfl := Option.some.inj h
    exact ev_retZ zo_18_41 zr_18 (Or.inr rfl)
  rw [if_neg c6] at h
  refine ev_if_t (t := 36) zo_18_18 rfl (zcm_ne c6) ?_
  refine ev_iconst (x := 1) zo_18_36 (by decide) rfl ?_
  refine ev_goto (t := 41) zo_18_37 rfl ?_
  obtain rfl := Option.some.inj h
  exact ev_retZ zo_18_41 zr_18 (Or.inr rfl)
/-! X5_joined -/
def F_X5_joined (x0 : Int32) (x1 : Int32) (x2 : Int32) (J : zzJ) : Option (Int32 × zzJ) := (if x0 = 10009 then (if x1 = (0 : Int32) then (if x2 = (0 : Int32) then some ((0 : Int32), J) else some ((1 : Int32), J)) else some ((1 : Int32), J)) else (if x0 = 10010 then (if x1 = (0 : Int32) then some ((0 : Int32), J) else (if x2 = (0 : Int32) then some ((0 : Int32), J) else some ((1 : Int32), J))) else (if x0 = 11042 then some ((x1 * x2), J) else (if x0 = 11043 then some ((x1 + x2), J) else (if x0 = 11045 then some ((x1 - x2), J) else (if x0 = 11060 then (if x1 < x2 then some ((1 : Int32), J) else some ((0 : Int32), J)) else (if x0 = 11061 then (if x1 = x2 then some ((1 : Int32), J) else some ((0 : Int32), J)) else some ((0 : Int32), J))))))))
set_option maxRecDepth 100000 in
set_option maxHeartbeats 2000000 in
theorem G_X5_joined {d : Nat} (hd : 0 ≤ d) (x0 : Int32) (x1 : Int32) (x2 : Int32) (J : zzJ) (r : Int32 × zzJ) (h : F_X5_joined x0 x1 x2 J = some r) : zzEv d 80 0 [.int x0, .int x1, .int x2] [] (zK J) (some (.int r.1), zK r.2) := by
  unfold F_X5_joined at h
  refine ev_iload_n zo_80_0 rfl rfl rfl ?_
  by_cases s1 : x0 = 10009
  · rw [if_pos s1] at h
    refine ev_lookup (t := 102) zo_80_1 (by rw [s1]; rfl) ?_
    refine ev_iload_n zo_80_102 rfl rfl rfl ?_
    by_cases c2 : x1 = (0 : Int32)
    · rw [if_pos c2] at h
      refine ev_if_f (t := 110) zo_80_103 rfl (zcm_nne c2) rfl ?_
      refine ev_iload_n zo_80_106 rfl rfl rfl ?_
      by_cases c3 : x2 = (0 : Int32)
      · rw [if_pos c3] at h
        refine ev_if_t (t := 114) zo_80_107 rfl (zcm_eq c3) ?_
        refine ev_iconst (x := 0) zo_80_114 (by decide) rfl ?_
        obtain rfl := Option.some.inj h
        exact ev_retI zo_80_115 zr_80
      rw [if_neg c3] at h
      refine ev_if_f (t := 114) zo_80_107 rfl (zcm_neq c3) rfl ?_
      refine ev_iconst (x := 1) zo_80_110 (by decide) rfl ?_
      refine ev_goto (t := 115) zo_80_111 rfl ?_
      obtain rfl := Option.some.inj h
      exact ev_retI zo_80_115 zr_80
    rw [if_neg c2] at h
    refine ev_if_t (t := 110) zo_80_103 rfl (zcm_ne c2) ?_
    refine ev_iconst (x := 1) zo_80_110 (by decide) rfl ?_
    refine ev_goto (t := 115) zo_80_111 rfl ?_
    obtain rfl := Option.some.inj h
    exact ev_retI zo_80_115 zr_80
  rw [if_neg s1] at h
  by_cases s4 : x0 = 10010
  · rw [if_pos s4] at h
    refine ev_lookup (t := 116) zo_80_1 (by rw [s4]; rfl) ?_
    refine ev_iload_n zo_80_116 rfl rfl rfl ?_
    by_cases c5 : x1 = (0 : Int32)
    · rw [if_pos c5] at h
      refine ev_if_t (t := 128) zo_80_117 rfl (zcm_eq c5) ?_
      refine ev_iconst (x := 0) zo_80_128 (by decide) rfl ?_
      obtain rfl := Option.some.inj h
      exact ev_retI zo_80_129 zr_80
    rw [if_neg c5] at h
    refine ev_if_f (t := 128) zo_80_117 rfl (zcm_neq c5) rfl ?_
    refine ev_iload_n zo_80_120 rfl rfl rfl ?_
    by_cases c6 : x2 = (0 : Int32)
    · rw [if_pos c6] at h
      refine ev_if_t (t := 128) zo_80_121 rfl (zcm_eq c6) ?_
      refine ev_iconst (x := 0) zo_80_128 (by decide) rfl ?_
      obtain rfl := Option.some.inj h
      exact ev_retI zo_80_129 zr_80
    rw [if_neg c6] at h
    refine ev_if_f (t := 128) zo_80_121 rfl (zcm_neq c6) rfl ?_
    refine ev_iconst (x := 1) zo_80_124 (by decide) rfl ?_
    refine ev_goto (t := 129) zo_80_125 rfl ?_
    obtain rfl := Option.some.inj h
    exact ev_retI zo_80_129 zr_80
  rw [if_neg s4] at h
  by_cases s7 : x0 = 11042
  · rw [if_pos s7] at h
    refine ev_lookup (t := 76) zo_80_1 (by rw [s7]; rfl) ?_
    refine ev_iload_n zo_80_76 rfl rfl rfl ?_
    refine ev_iload_n zo_80_77 rfl rfl rfl ?_
    refine ev_imul zo_80_78 rfl ?_
    obtain rfl := Option.some.inj h
    exact ev_retI zo_80_79 zr_80
  rw [if_neg s7] at h
  by_cases s8 : x0 = 11043
  · rw [if_pos s8] at h
    refine ev_lookup (t := 68) zo_80_1 (by rw [s8]; rfl) ?_
    refine ev_iload_n zo_80_68 rfl rfl rfl ?_
    refine ev_iload_n zo_80_69 rfl rfl rfl ?_
    refine ev_iadd zo_80_70 rfl ?_
    obtain rfl := Option.some.inj h
    exact ev_retI zo_80_71 zr_80
  rw [if_neg s8] at h
  by_cases s9 : x0 = 11045
  · rw [if_pos s9] at h
    refine ev_lookup (t := 72) zo_80_1 (by rw [s9]; rfl) ?_
    refine ev_iload_n zo_80_72 rfl rfl rfl ?_
    refine ev_iload_n zo_80_73 rfl rfl rfl ?_
    refine ev_isub zo_80_74 rfl ?_
    obtain rfl := Option.some.inj h
    exact ev_retI zo_80_75 zr_80
  rw [if_neg s9] at h
  by_cases s10 : x0 = 11060
  · rw [if_pos s10] at h
    refine ev_lookup (t := 80) zo_80_1 (by rw [s10]; rfl) ?_
    refine ev_iload_n zo_80_80 rfl rfl rfl ?_
    refine ev_iload_n zo_80_81 rfl rfl rfl ?_
    by_cases c11 : x1 < x2
    · rw [if_pos c11] at h
      refine ev_cmp_f (t := 89) zo_80_82 rfl (zcm_nge c11) rfl ?_
      refine ev_iconst (x := 1) zo_80_85 (by decide) rfl ?_
      refine ev_goto (t := 90) zo_80_86 rfl ?_
      obtain rfl := Option.some.inj h
      exact ev_retI zo_80_90 zr_80
    rw [if_neg c11] at h
    refine ev_cmp_t (t := 89) zo_80_82 rfl (zcm_ge c11) ?_
    refine ev_iconst (x := 0) zo_80_89 (by decide) rfl ?_
    obtain rfl := Option.some.inj h
    exact ev_retI zo_80_90 zr_80
  rw [if_neg s10] at h
  by_cases s12 : x0 = 11061
  · rw [if_pos s12] at h
    refine ev_lookup (t := 91) zo_80_1 (by rw [s12]; rfl) ?_
    refine ev_iload_n zo_80_91 rfl rfl rfl ?_
    refine ev_iload_n zo_80_92 rfl rfl rfl ?_
    by_cases c13 : x1 = x2
    · rw [if_pos c13] at h
      refine ev_cmp_f (t := 100) zo_80_93 rfl (zcm_nne c13) rfl ?_
      refine ev_iconst (x := 1) zo_80_96 (by decide) rfl ?_
      refine ev_goto (t := 101) zo_80_97 rfl ?_
      obtain rfl := Option.some.inj h
      exact ev_retI zo_80_101 zr_80
    rw [if_neg c13] at h
    refine ev_cmp_t (t := 100) zo_80_93 rfl (zcm_ne c13) ?_
    refine ev_iconst (x := 0) zo_80_100 (by decide) rfl ?_
    obtain rfl := Option.some.inj h
    exact ev_retI zo_80_101 zr_80
  rw [if_neg s12] at h
  refine ev_lookup (t := 130) zo_80_1 (look_out rfl ?_ rfl) ?_
  · exact List.forall_mem_cons.mpr ⟨sw_ne s1 (by decide), List.forall_mem_cons.mpr ⟨sw_ne s4 (by decide), List.forall_mem_cons.mpr ⟨sw_ne s7 (by decide), List.forall_mem_cons.mpr ⟨sw_ne s8 (by decide), List.forall_mem_cons.mpr ⟨sw_ne s9 (by decide), List.forall_mem_cons.mpr ⟨sw_ne s10 (by decide), List.forall_mem_cons.mpr ⟨sw_ne s12 (by decide), fun _ h => absurd h List.not_mem_nil⟩⟩⟩⟩⟩⟩⟩
  refine ev_iconst (x := 0) zo_80_130 (by decide) rfl ?_
  obtain rfl := Option.some.inj h
  exact ev_retI zo_80_131 zr_80
/-! X5_value -/
def F_X5_value_50 : Nat → Nat → Int32 → Int32 → Int32 → zzJ → Option (Int32 × zzJ)
  | 0, _, _, _, _, _ => none
  | n + 1, l3, l6, l7, l8, J => (if l8 < l6 then (Option.bind (F_X6_itemAt 2 l8 J) fun q3 => (if q3.1 < (10000 : Int32) then (Option.bind (F_X6_put 4 (l7 + 1) q3.1 q3.2) fun q20 => F_X5_value_50 n l3 l6 (l7 + 1) (l8 + 1) q20) else (if (10005 : Int32) < q3.1 then (if q3.1 = (10011 : Int32) then (Option.bind (F_X6_itemAt 4 l7 q3.2) fun q14 => (if q14.1 = (0 : Int32) then (Option.bind (F_X6_put 4 l7 (1 : Int32) q14.2) fun q17 => F_X5_value_50 n l3 l6 l7 (l8 + 1) q17) else (Option.bind (F_X6_put 4 l7 (0 : Int32) q14.2) fun q16 => F_X5_value_50 n l3 l6 l7 (l8 + 1) q16))) else (if q3.1 = (10012 : Int32) then (Option.bind (F_X6_itemAt 4 l7 q3.2) fun q12 => (Option.bind (F_X6_put 4 l7 (-q12.1) q12.2) fun q13 => F_X5_value_50 n l3 l6 l7 (l8 + 1) q13)) else (Option.bind (F_X6_itemAt 4 (l7 + (-1)) q3.2) fun q8 => (Option.bind (F_X6_itemAt 4 ((l7 + (-1)) + (1 : Int32)) q8.2) fun q9 => (Option.bind (F_X5_joined q3.1 q8.1 q9.1 q9.2) fun q10 => (Option.bind (F_X6_put 4 (l7 + (-1)) q10.1 q10.2) fun q11 => F_X5_value_50 n l3 l6 (l7 + (-1)) (l8 + 1) q11)))))) else (Option.bind (F_X6_itemAt l3 (q3.1 - (10000 : Int32)) q3.2) fun q18 => (Option.bind (F_X6_put 4 (l7 + 1) q18.1 q18.2) fun q19 => F_X5_value_50 n l3 l6 (l7 + 1) (l8 + 1) q19))))) else (Option.bind (F_X6_itemAt 4 (0 : Int32) J) fun q2 => some (q2.1, q2.2)))
set_option maxRecDepth 100000 in
set_option maxHeartbeats 2000000 in
theorem G_X5_value_50 {d : Nat} (hd : 1 ≤ d) : ∀ (n : Nat) (l3 : Nat) (l6 : Int32) (l7 : Int32) (l8 : Int32) (J : zzJ) (r : Int32 × zzJ), F_X5_value_50 n l3 l6 l7 l8 J = some r → ∀ (lv1 : Value) (hlv1 : lv1.category = 1), ∀ (lv2 : Value) (hlv2 : lv2.category = 1), ∀ (lv4 : Value) (hlv4 : lv4.category = 1), ∀ (lv5 : Value) (hlv5 : lv5.category = 1), ∀ (lv9 : Value) (hlv9 : lv9.category = 1), zzEv d 79 50 [.ref 1, lv1, lv2, .ref l3, lv4, lv5, .int l6, .int l7, .int l8, lv9] [] (zK J) (some (.int r.1), zK r.2) := by
  intro n
  induction n with
  | zero => intro l3 l6 l7 l8 J r h; simp [F_X5_value_50] at h
  | succ n ih =>
    intro l3 l6 l7 l8 J r h lv1 hlv1 lv2 hlv2 lv4 hlv4 lv5 hlv5 lv9 hlv9
    rw [F_X5_value_50] at h
    refine ev_iload zo_79_50 rfl rfl ?_
    refine ev_iload zo_79_52 rfl rfl ?_
    by_cases c1 : l8 < l6
    · rw [if_pos c1] at h
      refine ev_cmp_f (t := 236) zo_79_54 rfl (zcm_nge c1) rfl ?_
      refine ev_aload_n zo_79_57 rfl rfl rfl rfl ?_
      refine ev_getR zo_79_58 zf_79_9 (by decide) rfl rfl rfl rfl ?_
      refine ev_iload zo_79_61 rfl rfl ?_
      obtain ⟨q3, hq3, h⟩ := zz_bd h
      refine ev_cS (as := [.int l8, .ref 2]) (lsn := [.ref 2, .int l8]) (by omega) zo_79_63 zl_79_32 (by decide) (by rw [zm_125]; rfl) (by unfold zzIn; rw [zm_125]; rfl) (by rw [zm_125]; exact Nat.le_of_ble_eq_true rfl) (Nat.le_of_ble_eq_true rfl) (G_X6_itemAt (by omega) 2 l8 J q3 hq3) rfl ?_
      show zzEv _ _ _ _ [.int q3.1] _ _
      refine ev_istore zo_79_66 (zz_set rfl (by decide) (Nat.le_of_ble_eq_true rfl)) rfl ?_
      show zzEv _ _ _ [.ref 1, lv1, lv2, .ref l3, lv4, lv5, .int l6, .int l7, .int l8, .int q3.1] _ _ _
      refine ev_iload zo_79_68 rfl rfl ?_
      refine ev_sipush (x := 10000) zo_79_70 (by decide) rfl ?_
      by_cases c4 : q3.1 < (10000 : Int32)
      · rw [if_pos c4] at h
        refine ev_cmp_f (t := 93) zo_79_73 rfl (zcm_nge c4) rfl ?_
        refine ev_iinc (v := 1) zo_79_76 rfl (by decide) (zz_set rfl (by decide) (Nat.le_of_ble_eq_true rfl)) rfl ?_
        show zzEv _ _ _ [.ref 1, lv1, lv2, .ref l3, lv4, lv5, .int l6, .int (l7 + 1), .int l8, .int q3.1] _ _ _
        refine ev_aload_n zo_79_79 rfl rfl rfl rfl ?_
        refine ev_getR zo_79_80 zf_79_18 (by decide) rfl rfl rfl rfl ?_
        refine ev_iload zo_79_83 rfl rfl ?_
        refine ev_iload zo_79_85 rfl rfl ?_
        obtain ⟨q20, hq20, h⟩ := zz_bd h
        refine ev_cS (as := [.int q3.1, .int (l7 + 1), .ref 4]) (lsn := [.ref 4, .int (l7 + 1), .int q3.1]) (by omega) zo_79_87 zl_79_28 (by decide) (by rw [zm_126]; rfl) (by unfold zzIn; rw [zm_126]; rfl) (by rw [zm_126]; exact Nat.le_of_ble_eq_true rfl) (Nat.le_of_ble_eq_true rfl) (G_X6_put (by omega) 4 (l7 + 1) q3.1 q3.2 q20 hq20) rfl ?_
        show zzEv _ _ _ _ [] _ _
        refine ev_goto (t := 230) zo_79_90 rfl ?_
        refine ev_iinc (v := 1) zo_79_230 rfl (by decide) (zz_set rfl (by decide) (Nat.le_of_ble_eq_true rfl)) rfl ?_
        show zzEv _ _ _ [.ref 1, lv1, lv2, .ref l3, lv4, lv5, .int l6, .int (l7 + 1), .int (l8 + 1), .int q3.1] _ _ _
        refine ev_goto (t := 50) zo_79_233 rfl ?_
        exact ih l3 l6 (l7 + 1) (l8 + 1) q20 r h (lv1) hlv1 (lv2) hlv2 (lv4) hlv4 (lv5) hlv5 (.int q3.1) rfl
      rw [if_neg c4] at h
      refine ev_cmp_t (t := 93) zo_79_73 rfl (zcm_ge c4) ?_
      refine ev_iload zo_79_93 rfl rfl ?_
      refine ev_sipush (x := 10005) zo_79_95 (by decide) rfl ?_
      by_cases c5 : (10005 : Int32) < q3.1
      · rw [if_pos c5] at h
        refine ev_cmp_t (t := 126) zo_79_98 rfl (zcm_gt c5) ?_
        refine ev_iload zo_79_126 rfl rfl ?_
        refine ev_sipush (x := 10011) zo_79_128 (by decide) rfl ?_
        by_cases c6 : q3.1 = (10011 : Int32)
        · rw [if_pos c6] at h
          refine ev_cmp_f (t := 163) zo_79_131 rfl (zcm_nne c6) rfl ?_
          refine ev_aload_n zo_79_134 rfl rfl rfl rfl ?_
          refine ev_getR zo_79_135 zf_79_18 (by decide) rfl rfl rfl rfl ?_
          refine ev_iload zo_79_138 rfl rfl ?_
          refine ev_aload_n zo_79_140 rfl rfl rfl rfl ?_
          refine ev_getR zo_79_141 zf_79_18 (by decide) rfl rfl rfl rfl ?_
          refine ev_iload zo_79_144 rfl rfl ?_
          obtain ⟨q14, hq14, h⟩ := zz_bd h
          refine ev_cS (as := [.int l7, .ref 4]) (lsn := [.ref 4, .int l7]) (by omega) zo_79_146 zl_79_32 (by decide) (by rw [zm_125]; rfl) (by unfold zzIn; rw [zm_125]; rfl) (by rw [zm_125]; exact Nat.le_of_ble_eq_true rfl) (Nat.le_of_ble_eq_true rfl) (G_X6_itemAt (by omega) 4 l7 q3.2 q14 hq14) rfl ?_
          show zzEv _ _ _ _ [.int q14.1, .int l7, .ref 4] _ _
          by_cases c15 : q14.1 = (0 : Int32)
          · rw [if_pos c15] at h
            refine ev_if_f (t := 156) zo_79_149 rfl (zcm_nne c15) rfl ?_
            refine ev_iconst (x := 1) zo_79_152 (by decide) rfl ?_
            refine ev_goto (t := 157) zo_79_153 rfl ?_
            obtain ⟨q17, hq17, h⟩ := zz_bd h
            refine ev_cS (as := [.int (1 : Int32), .int l7, .ref 4]) (lsn := [.ref 4, .int l7, .int (1 : Int32)]) (by omega) zo_79_157 zl_79_28 (by decide) (by rw [zm_126]; rfl) (by unfold zzIn; rw [zm_126]; rfl) (by rw [zm_126]; exact Nat.le_of_ble_eq_true rfl) (Nat.le_of_ble_eq_true rfl) (G_X6_put (by omega) 4 l7 (1 : Int32) q14.2 q17 hq17) rfl ?_
            show zzEv _ _ _ _ [] _ _
            refine ev_goto (t := 230) zo_79_160 rfl ?_
            refine ev_iinc (v := 1) zo_79_230 rfl (by decide) (zz_set rfl (by decide) (Nat.le_of_ble_eq_true rfl)) rfl ?_
            show zzEv _ _ _ [.ref 1, lv1, lv2, .ref l3, lv4, lv5, .int l6, .int l7, .int (l8 + 1), .int q3.1] _ _ _
            refine ev_goto (t := 50) zo_79_233 rfl ?_
            exact ih l3 l6 l7 (l8 + 1) q17 r h (lv1) hlv1 (lv2) hlv2 (lv4) hlv4 (lv5) hlv5 (.int q3.1) rfl
          rw [if_neg c15] at h
          refine ev_if_t (t := 156) zo_79_149 rfl (zcm_ne c15) ?_
          refine ev_iconst (x := 0) zo_79_156 (by decide) rfl ?_
          obtain ⟨q16, hq16, h⟩ := zz_bd h
          refine ev_cS (as := [.int (0 : Int32), .int l7, .ref 4]) (lsn := [.ref 4, .int l7, .int (0 : Int32)]) (by omega) zo_79_157 zl_79_28 (by decide) (by rw [zm_126]; rfl) (by unfold zzIn; rw [zm_126]; rfl) (by rw [zm_126]; exact Nat.le_of_ble_eq_true rfl) (Nat.le_of_ble_eq_true rfl) (G_X6_put (by omega) 4 l7 (0 : Int32) q14.2 q16 hq16) rfl ?_
          show zzEv _ _ _ _ [] _ _
          refine ev_goto (t := 230) zo_79_160 rfl ?_
          refine ev_iinc (v := 1) zo_79_230 rfl (by decide) (zz_set rfl (by decide) (Nat.le_of_ble_eq_true rfl)) rfl ?_
          show zzEv _ _ _ [.ref 1, lv1, lv2, .ref l3, lv4, lv5, .int l6, .int l7, .int (l8 + 1), .int q3.1] _ _ _
          refine ev_goto (t := 50) zo_79_233 rfl ?_
          exact ih l3 l6 l7 (l8 + 1) q16 r h (lv1) hlv1 (lv2) hlv2 (lv4) hlv4 (lv5) hlv5 (.int q3.1) rfl
        rw [if_neg c6] at h
        refine ev_cmp_t (t := 163) zo_79_131 rfl (zcm_ne c6) ?_
        refine ev_iload zo_79_163 rfl rfl ?_
        refine ev_sipush (x := 10012) zo_79_165 (by decide) rfl ?_
        by_cases c7 : q3.1 = (10012 : Int32)
        · rw [if_pos c7] at h
          refine ev_cmp_f (t := 193) zo_79_168 rfl (zcm_nne c7) rfl ?_
          refine ev_aload_n zo_79_171 rfl rfl rfl rfl ?_
          refine ev_getR zo_79_172 zf_79_18 (by decide) rfl rfl rfl rfl ?_
          refine ev_iload zo_79_175 rfl rfl ?_
          refine ev_aload_n zo_79_177 rfl rfl rfl rfl ?_
          refine ev_getR zo_79_178 zf_79_18 (by decide) rfl rfl rfl rfl ?_
          refine ev_iload zo_79_181 rfl rfl ?_
          obtain ⟨q12, hq12, h⟩ := zz_bd h
          refine ev_cS (as := [.int l7, .ref 4]) (lsn := [.ref 4, .int l7]) (by omega) zo_79_183 zl_79_32 (by decide) (by rw [zm_125]; rfl) (by unfold zzIn; rw [zm_125]; rfl) (by rw [zm_125]; exact Nat.le_of_ble_eq_true rfl) (Nat.le_of_ble_eq_true rfl) (G_X6_itemAt (by omega) 4 l7 q3.2 q12 hq12) rfl ?_
          show zzEv _ _ _ _ [.int q12.1, .int l7, .ref 4] _ _
          refine ev_ineg zo_79_186 rfl ?_
          obtain ⟨q13, hq13, h⟩ := zz_bd h
          refine ev_cS (as := [.int (-q12.1), .int l7, .ref 4]) (lsn := [.ref 4, .int l7, .int (-q12.1)]) (by omega) zo_79_187 zl_79_28 (by decide) (by rw [zm_126]; rfl) (by unfold zzIn; rw [zm_126]; rfl) (by rw [zm_126]; exact Nat.le_of_ble_eq_true rfl) (Nat.le_of_ble_eq_true rfl) (G_X6_put (by omega) 4 l7 (-q12.1) q12.2 q13 hq13) rfl ?_
          show zzEv _ _ _ _ [] _ _
          refine ev_goto (t := 230) zo_79_190 rfl ?_
          refine ev_iinc (v := 1) zo_79_230 rfl (by decide) (zz_set rfl (by decide) (Nat.le_of_ble_eq_true rfl)) rfl ?_
          show zzEv _ _ _ [.ref 1, lv1, lv2, .ref l3, lv4, lv5, .int l6, .int l7, .int (l8 + 1), .int q3.1] _ _ _
          refine ev_goto (t := 50) zo_79_233 rfl ?_
          exact ih l3 l6 l7 (l8 + 1) q13 r h (lv1) hlv1 (lv2) hlv2 (lv4) hlv4 (lv5) hlv5 (.int q3.1) rfl
        rw [if_neg c7] at h
        refine ev_cmp_t (t := 193) zo_79_168 rfl (zcm_ne c7) ?_
        refine ev_iinc (v := (-1)) zo_79_193 rfl (by decide) (zz_set rfl (by decide) (Nat.le_of_ble_eq_true rfl)) rfl ?_
        show zzEv _ _ _ [.ref 1, lv1, lv2, .ref l3, lv4, lv5, .int l6, .int (l7 + (-1)), .int l8, .int q3.1] _ _ _
        refine ev_aload_n zo_79_196 rfl rfl rfl rfl ?_
        refine ev_getR zo_79_197 zf_79_18 (by decide) rfl rfl rfl rfl ?_
        refine ev_iload zo_79_200 rfl rfl ?_
        refine ev_iload zo_79_202 rfl rfl ?_
        refine ev_aload_n zo_79_204 rfl rfl rfl rfl ?_
        refine ev_getR zo_79_205 zf_79_18 (by decide) rfl rfl rfl rfl ?_
        refine ev_iload zo_79_208 rfl rfl ?_
        obtain ⟨q8, hq8, h⟩ := zz_bd h
        refine ev_cS (as := [.int (l7 + (-1)), .ref 4]) (lsn := [.ref 4, .int (l7 + (-1))]) (by omega) zo_79_210 zl_79_32 (by decide) (by rw [zm_125]; rfl) (by unfold zzIn; rw [zm_125]; rfl) (by rw [zm_125]; exact Nat.le_of_ble_eq_true rfl) (Nat.le_of_ble_eq_true rfl) (G_X6_itemAt (by omega) 4 (l7 + (-1)) q3.2 q8 hq8) rfl ?_
        show zzEv _ _ _ _ [.int q8.1, .int q3.1, .int (l7 + (-1)), .ref 4] _ _
        refine ev_aload_n zo_79_213 rfl rfl rfl rfl ?_
        refine ev_getR zo_79_214 zf_79_18 (by decide) rfl rfl rfl rfl ?_
        refine ev_iload zo_79_217 rfl rfl ?_
        refine ev_iconst (x := 1) zo_79_219 (by decide) rfl ?_
        refine ev_iadd zo_79_220 rfl ?_
        obtain ⟨q9, hq9, h⟩ := zz_bd h
        refine ev_cS (as := [.int ((l7 + (-1)) + (1 : Int32)), .ref 4]) (lsn := [.ref 4, .int ((l7 + (-1)) + (1 : Int32))]) (by omega) zo_79_221 zl_79_32 (by decide) (by rw [zm_125]; rfl) (by unfold zzIn; rw [zm_125]; rfl) (by rw [zm_125]; exact Nat.le_of_ble_eq_true rfl) (Nat.le_of_ble_eq_true rfl) (G_X6_itemAt (by omega) 4 ((l7 + (-1)) + (1 : Int32)) q8.2 q9 hq9) rfl ?_
        show zzEv _ _ _ _ [.int q9.1, .int q8.1, .int q3.1, .int (l7 + (-1)), .ref 4] _ _
        obtain ⟨q10, hq10, h⟩ := zz_bd h
        refine ev_cS (as := [.int q9.1, .int q8.1, .int q3.1]) (lsn := [.int q3.1, .int q8.1, .int q9.1]) (by omega) zo_79_224 zl_79_36 (by decide) (by rw [zm_80]; rfl) (by unfold zzIn; rw [zm_80]; rfl) (by rw [zm_80]; exact Nat.le_of_ble_eq_true rfl) (Nat.le_of_ble_eq_true rfl) (G_X5_joined (by omega) q3.1 q8.1 q9.1 q9.2 q10 hq10) rfl ?_
        show zzEv _ _ _ _ [.int q10.1, .int (l7 + (-1)), .ref 4] _ _
        obtain ⟨q11, hq11, h⟩ := zz_bd h
        refine ev_cS (as := [.int q10.1, .int (l7 + (-1)), .ref 4]) (lsn := [.ref 4, .int (l7 + (-1)), .int q10.1]) (by omega) zo_79_227 zl_79_28 (by decide) (by rw [zm_126]; rfl) (by unfold zzIn; rw [zm_126]; rfl) (by rw [zm_126]; exact Nat.le_of_ble_eq_true rfl) (Nat.le_of_ble_eq_true rfl) (G_X6_put (by omega) 4 (l7 + (-1)) q10.1 q10.2 q11 hq11) rfl ?_
        show zzEv _ _ _ _ [] _ _
        refine ev_iinc (v := 1) zo_79_230 rfl (by decide) (zz_set rfl (by decide) (Nat.le_of_ble_eq_true rfl)) rfl ?_
        show zzEv _ _ _ [.ref 1, lv1, lv2, .ref l3, lv4, lv5, .int l6, .int (l7 + (-1)), .int (l8 + 1), .int q3.1] _ _ _
        refine ev_goto (t := 50) zo_79_233 rfl ?_
        exact ih l3 l6 (l7 + (-1)) (l8 + 1) q11 r h (lv1) hlv1 (lv2) hlv2 (lv4) hlv4 (lv5) hlv5 (.int q3.1) rfl
      rw [if_neg c5] at h
      refine ev_cmp_f (t := 126) zo_79_98 rfl (zcm_ngt c5) rfl ?_
      refine ev_iinc (v := 1) zo_79_101 rfl (by decide) (zz_set rfl (by decide) (Nat.le_of_ble_eq_true rfl)) rfl ?_
      show zzEv _ _ _ [.ref 1, lv1, lv2, .ref l3, lv4, lv5, .int l6, .int (l7 + 1), .int l8, .int q3.1] _ _ _
      refine ev_aload_n zo_79_104 rfl rfl rfl rfl ?_
      refine ev_getR zo_79_105 zf_79_18 (by decide) rfl rfl rfl rfl ?_
      refine ev_iload zo_79_108 rfl rfl ?_
      refine ev_aload_n zo_79_110 rfl rfl rfl rfl ?_
      refine ev_iload zo_79_111 rfl rfl ?_
      refine ev_sipush (x := 10000) zo_79_113 (by decide) rfl ?_
      refine ev_isub zo_79_116 rfl ?_
      obtain ⟨q18, hq18, h⟩ := zz_bd h
      refine ev_cS (as := [.int (q3.1 - (10000 : Int32)), .ref l3]) (lsn := [.ref l3, .int (q3.1 - (10000 : Int32))]) (by omega) zo_79_117 zl_79_32 (by decide) (by rw [zm_125]; rfl) (by unfold zzIn; rw [zm_125]; rfl) (by rw [zm_125]; exact Nat.le_of_ble_eq_true rfl) (Nat.le_of_ble_eq_true rfl) (G_X6_itemAt (by omega) l3 (q3.1 - (10000 : Int32)) q3.2 q18 hq18) rfl ?_
      show zzEv _ _ _ _ [.int q18.1, .int (l7 + 1), .ref 4] _ _
      obtain ⟨q19, hq19, h⟩ := zz_bd h
      refine ev_cS (as := [.int q18.1, .int (l7 + 1), .ref 4]) (lsn := [.ref 4, .int (l7 + 1), .int q18.1]) (by omega) zo_79_120 zl_79_28 (by decide) (by rw [zm_126]; rfl) (by unfold zzIn; rw [zm_126]; rfl) (by rw [zm_126]; exact Nat.le_of_ble_eq_true rfl) (Nat.le_of_ble_eq_true rfl) (G_X6_put (by omega) 4 (l7 + 1) q18.1 q18.2 q19 hq19) rfl ?_
      show zzEv _ _ _ _ [] _ _
      refine ev_goto (t := 230) zo_79_123 rfl ?_
      refine ev_iinc (v := 1) zo_79_230 rfl (by decide) (zz_set rfl (by decide) (Nat.le_of_ble_eq_true rfl)) rfl ?_
      show zzEv _ _ _ [.ref 1, lv1, lv2, .ref l3, lv4, lv5, .int l6, .int (l7 + 1), .int (l8 + 1), .int q3.1] _ _ _
      refine ev_goto (t := 50) zo_79_233 rfl ?_
      exact ih l3 l6 (l7 + 1) (l8 + 1) q19 r h (lv1) hlv1 (lv2) hlv2 (lv4) hlv4 (lv5) hlv5 (.int q3.1) rfl
    rw [if_neg c1] at h
    refine ev_cmp_t (t := 236) zo_79_54 rfl (zcm_ge c1) ?_
    refine ev_aload_n zo_79_236 rfl rfl rfl rfl ?_
    refine ev_getR zo_79_237 zf_79_18 (by decide) rfl rfl rfl rfl ?_
    refine ev_iconst (x := 0) zo_79_240 (by decide) rfl ?_
    obtain ⟨q2, hq2, h⟩ := zz_bd h
    refine ev_cS (as := [.int (0 : Int32), .ref 4]) (lsn := [.ref 4, .int (0 : Int32)]) (by omega) zo_79_241 zl_79_32 (by decide) (by rw [zm_125]; rfl) (by unfold zzIn; rw [zm_125]; rfl) (by rw [zm_125]; exact Nat.le_of_ble_eq_true rfl) (Nat.le_of_ble_eq_true rfl) (G_X6_itemAt (by omega) 4 (0 : Int32) J q2 hq2) rfl ?_
    show zzEv _ _ _ _ [.int q2.1] _ _
    obtain rfl := Option.some.inj h
    exact ev_retI zo_79_244 zr_79
def F_X5_value_30 (l3 : Nat) (l4 : Int32) (t0 : Int32) (J : zzJ) : Option (Int32 × zzJ) := (Option.bind (F_X6_itemAt 3 l4 J) fun q21 => F_X5_value_50 4096 l3 q21.1 (-1 : Int32) t0 q21.2)
set_option maxRecDepth 100000 in
set_option maxHeartbeats 2000000 in
theorem G_X5_value_30 {d : Nat} (hd : 1 ≤ d) : ∀ (l3 : Nat) (l4 : Int32) (t0 : Int32) (J : zzJ) (r : Int32 × zzJ), F_X5_value_30 l3 l4 t0 J = some r → ∀ (lv1 : Value) (hlv1 : lv1.category = 1), ∀ (lv2 : Value) (hlv2 : lv2.category = 1), zzEv d 79 30 [.ref 1, lv1, lv2, .ref l3, .int l4, zzU, zzU, zzU, zzU, zzU] [.int t0] (zK J) (some (.int r.1), zK r.2) := by
  intro l3 l4 t0 J r h lv1 hlv1 lv2 hlv2
  unfold F_X5_value_30 at h
  refine ev_istore zo_79_30 (zz_set rfl (by decide) (Nat.le_of_ble_eq_true rfl)) rfl ?_
  show zzEv _ _ _ [.ref 1, lv1, lv2, .ref l3, .int l4, .int t0, zzU, zzU, zzU, zzU] _ _ _
  refine ev_aload_n zo_79_32 rfl rfl rfl rfl ?_
  refine ev_getR zo_79_33 zf_79_15 (by decide) rfl rfl rfl rfl ?_
  refine ev_iload zo_79_36 rfl rfl ?_
  obtain ⟨q21, hq21, h⟩ := zz_bd h
  refine ev_cS (as := [.int l4, .ref 3]) (lsn := [.ref 3, .int l4]) (by omega) zo_79_38 zl_79_32 (by decide) (by rw [zm_125]; rfl) (by unfold zzIn; rw [zm_125]; rfl) (by rw [zm_125]; exact Nat.le_of_ble_eq_true rfl) (Nat.le_of_ble_eq_true rfl) (G_X6_itemAt (by omega) 3 l4 J q21 hq21) rfl ?_
  show zzEv _ _ _ _ [.int q21.1] _ _
  refine ev_istore zo_79_41 (zz_set rfl (by decide) (Nat.le_of_ble_eq_true rfl)) rfl ?_
  show zzEv _ _ _ [.ref 1, lv1, lv2, .ref l3, .int l4, .int t0, .int q21.1, zzU, zzU, zzU] _ _ _
  refine ev_iconst (x := (-1)) zo_79_43 (by decide) rfl ?_
  refine ev_istore zo_79_44 (zz_set rfl (by decide) (Nat.le_of_ble_eq_true rfl)) rfl ?_
  show zzEv _ _ _ [.ref 1, lv1, lv2, .ref l3, .int l4, .int t0, .int q21.1, .int (-1 : Int32), zzU, zzU] _ _ _
  refine ev_iload zo_79_46 rfl rfl ?_
  refine ev_istore zo_79_48 (zz_set rfl (by decide) (Nat.le_of_ble_eq_true rfl)) rfl ?_
  show zzEv _ _ _ [.ref 1, lv1, lv2, .ref l3, .int l4, .int t0, .int q21.1, .int (-1 : Int32), .int t0, zzU] _ _ _
  exact G_X5_value_50 hd 4096 l3 q21.1 (-1 : Int32) t0 q21.2 r h (lv1) hlv1 (lv2) hlv2 (.int l4) rfl (.int t0) rfl (zzU) rfl
def F_X5_value (x1 : Int32) (x2 : Int32) (x3 : Nat) (J : zzJ) : Option (Int32 × zzJ) := (if x2 = (0 : Int32) then F_X5_value_30 x3 ((x1 * (3 : Int32)) + x2) (x1 * (160 : Int32)) J else (Option.bind (F_X6_itemAt 3 (((x1 * (3 : Int32)) + x2) - (1 : Int32)) J) fun q23 => F_X5_value_30 x3 ((x1 * (3 : Int32)) + x2) q23.1 q23.2))
set_option maxRecDepth 100000 in
set_option maxHeartbeats 2000000 in
theorem G_X5_value {d : Nat} (hd : 1 ≤ d) (x1 : Int32) (x2 : Int32) (x3 : Nat) (J : zzJ) (r : Int32 × zzJ) (h : F_X5_value x1 x2 x3 J = some r) : zzEv d 79 0 [.ref 1, .int x1, .int x2, .ref x3, zzU, zzU, zzU, zzU, zzU, zzU] [] (zK J) (some (.int r.1), zK r.2) := by
  unfold F_X5_value at h
  refine ev_iload_n zo_79_0 rfl rfl rfl ?_
  refine ev_iconst (x := 3) zo_79_1 (by decide) rfl ?_
  refine ev_imul zo_79_2 rfl ?_
  refine ev_iload_n zo_79_3 rfl rfl rfl ?_
  refine ev_iadd zo_79_4 rfl ?_
  refine ev_istore zo_79_5 (zz_set rfl (by decide) (Nat.le_of_ble_eq_true rfl)) rfl ?_
  show zzEv _ _ _ [.ref 1, .int x1, .int x2, .ref x3, .int ((x1 * (3 : Int32)) + x2), zzU, zzU, zzU, zzU, zzU] _ _ _
  refine ev_iload_n zo_79_7 rfl rfl rfl ?_
  by_cases c22 : x2 = (0 : Int32)
  · rw [if_pos c22] at h
    refine ev_if_f (t := 19) zo_79_8 rfl (zcm_nne c22) rfl ?_
    refine ev_iload_n zo_79_11 rfl rfl rfl ?_
    refine ev_sipush (x := 160) zo_79_12 (by decide) rfl ?_
    refine ev_imul zo_79_15 rfl ?_
    refine ev_goto (t := 30) zo_79_16 rfl ?_
    exact G_X5_value_30 hd x3 ((x1 * (3 : Int32)) + x2) (x1 * (160 : Int32)) J r h (.int x1) rfl (.int x2) rfl
  rw [if_neg c22] at h
  refine ev_if_t (t := 19) zo_79_8 rfl (zcm_ne c22) ?_
  refine ev_aload_n zo_79_19 rfl rfl rfl rfl ?_
  refine ev_getR zo_79_20 zf_79_15 (by decide) rfl rfl rfl rfl ?_
  refine ev_iload zo_79_23 rfl rfl ?_
  refine ev_iconst (x := 1) zo_79_25 (by decide) rfl ?_
  refine ev_isub zo_79_26 rfl ?_
  obtain ⟨q23, hq23, h⟩ := zz_bd h
  refine ev_cS (as := [.int (((x1 * (3 : Int32)) + x2) - (1 : Int32)), .ref 3]) (lsn := [.ref 3, .int (((x1 * (3 : Int32)) + x2) - (1 : Int32))]) (by omega) zo_79_27 zl_79_32 (by decide) (by rw [zm_125]; rfl) (by unfold zzIn; rw [zm_125]; rfl) (by rw [zm_125]; exact Nat.le_of_ble_eq_true rfl) (Nat.le_of_ble_eq_true rfl) (G_X6_itemAt (by omega) 3 (((x1 * (3 : Int32)) + x2) - (1 : Int32)) J q23 hq23) rfl ?_
  show zzEv _ _ _ _ [.int q23.1] _ _
  exact G_X5_value_30 hd x3 ((x1 * (3 : Int32)) + x2) q23.1 q23.2 r h (.int x1) rfl (.int x2) rfl
/-! X6_bounded -/
def F_X6_bounded (x0 : Int32) (x1 : Int32) (x2 : Int32) (J : zzJ) : Option (Int32 × zzJ) := (if x0 < x1 then some (x1, J) else (if x2 < x0 then some (x2, J) else some (x0, J)))
set_option maxRecDepth 100000 in
set_option maxHeartbeats 2000000 in
theorem G_X6_bounded {d : Nat} (hd : 0 ≤ d) (x0 : Int32) (x1 : Int32) (x2 : Int32) (J : zzJ) (r : Int32 × zzJ) (h : F_X6_bounded x0 x1 x2 J = some r) : zzEv d 135 0 [.int x0, .int x1, .int x2] [] (zK J) (some (.int r.1), zK r.2) := by
  unfold F_X6_bounded at h
  refine ev_iload_n zo_135_0 rfl rfl rfl ?_
  refine ev_iload_n zo_135_1 rfl rfl rfl ?_
  by_cases c1 : x0 < x1
  · rw [if_pos c1] at h
    refine ev_cmp_f (t := 9) zo_135_2 rfl (zcm_nge c1) rfl ?_
    refine ev_iload_n zo_135_5 rfl rfl rfl ?_
    refine ev_goto (t := 19) zo_135_6 rfl ?_
    obtain rfl := Option.some.inj h
    exact ev_retI zo_135_19 zr_135
  rw [if_neg c1] at h
  refine ev_cmp_t (t := 9) zo_135_2 rfl (zcm_ge c1) ?_
  refine ev_iload_n zo_135_9 rfl rfl rfl ?_
  refine ev_iload_n zo_135_10 rfl rfl rfl ?_
  by_cases c2 : x2 < x0
  · rw [if_pos c2] at h
    refine ev_cmp_f (t := 18) zo_135_11 rfl (zcm_nle c2) rfl ?_
    refine ev_iload_n zo_135_14 rfl rfl rfl ?_
    refine ev_goto (t := 19) zo_135_15 rfl ?_
    obtain rfl := Option.some.inj h
    exact ev_retI zo_135_19 zr_135
  rw [if_neg c2] at h
  refine ev_cmp_t (t := 18) zo_135_11 rfl (zcm_le c2) ?_
  refine ev_iload_n zo_135_18 rfl rfl rfl ?_
  obtain rfl := Option.some.inj h
  exact ev_retI zo_135_19 zr_135
/-! X0_telling -/
def F_X0_telling_89 (l0 : Nat) (l1 : Int32) (t0 : Int32) (t1 : Int32) (t2 : Nat) (J : zzJ) : Option (Int32 × zzJ) := (Option.bind (F_X6_put t2 t1 t0 J) fun q1 => (if zKd l0 = 0 then (if zMR l0 0 = some 1 then (Option.bind (zMR l0 10) fun b4 => (Option.bind (F_X5_value (q1.2 l0 3) l1 b4 q1) fun q5 => (if l1 = (2 : Int32) then (Option.bind (F_X6_bounded q5.1 (-99 : Int32) (99 : Int32) q5.2) fun q8 => some (q8.1, q8.2)) else (Option.bind (F_X6_bounded q5.1 (0 : Int32) (99 : Int32) q5.2) fun q7 => some (q7.1, q7.2))))) else none) else none))
set_option maxRecDepth 100000 in
set_option maxHeartbeats 2000000 in
theorem G_X0_telling_89 {d : Nat} (hd : 2 ≤ d) : ∀ (l0 : Nat) (l1 : Int32) (t0 : Int32) (t1 : Int32) (t2 : Nat) (J : zzJ) (r : Int32 × zzJ), F_X0_telling_89 l0 l1 t0 t1 t2 J = some r → ∀ (lv2 : Value) (hlv2 : lv2.category = 1), ∀ (lv3 : Value) (hlv3 : lv3.category = 1), ∀ (lv4 : Value) (hlv4 : lv4.category = 1), zzEv d 20 89 [.ref l0, .int l1, lv2, lv3, lv4, zzU] [.int t0, .int t1, .ref t2] (zK J) (some (.int r.1), zK r.2) := by
  intro l0 l1 t0 t1 t2 J r h lv2 hlv2 lv3 hlv3 lv4 hlv4
  unfold F_X0_telling_89 at h
  obtain ⟨q1, hq1, h⟩ := zz_bd h
  refine ev_cS (as := [.int t0, .int t1, .ref t2]) (lsn := [.ref t2, .int t1, .int t0]) (by omega) zo_20_89 zl_20_55 (by decide) (by rw [zm_126]; rfl) (by unfold zzIn; rw [zm_126]; rfl) (by rw [zm_126]; exact Nat.le_of_ble_eq_true rfl) (Nat.le_of_ble_eq_true rfl) (G_X6_put (by omega) t2 t1 t0 J q1 hq1) rfl ?_
  show zzEv _ _ _ _ [] _ _
  refine ev_aload_n zo_20_92 rfl rfl rfl rfl ?_
  obtain ⟨c2, h⟩ := zz_chk h
  obtain ⟨c3, h⟩ := zz_chk h
  refine ev_getR zo_20_93 zf_20_9 (by decide) rfl c2 c3 rfl ?_
  refine ev_aload_n zo_20_96 rfl rfl rfl rfl ?_
  refine ev_getI zo_20_97 zf_20_22 (by decide) (Or.inl rfl) c2 rfl ?_
  refine ev_iload_n zo_20_100 rfl rfl rfl ?_
  refine ev_aload_n zo_20_101 rfl rfl rfl rfl ?_
  obtain ⟨b4, eb4, h⟩ := zz_bd h
  refine ev_getR zo_20_102 zf_20_48 (by decide) rfl c2 eb4 rfl ?_
  obtain ⟨q5, hq5, h⟩ := zz_bd h
  refine ev_cV (as := [.ref b4, .int l1, .int (q1.2 l0 3)]) (lsn := [.ref 1, .int (q1.2 l0 3), .int l1, .ref b4, zzU, zzU, zzU, zzU, zzU, zzU]) (by omega) zo_20_105 zl_20_106 (by rw [zm_79]; rfl) (by rw [zm_79]; exact rfl) (by rw [zm_79]; decide) (by unfold zzIn; rw [zm_79]; rfl) (by rw [zm_79]; exact Nat.le_of_ble_eq_true rfl) (Nat.le_of_ble_eq_true rfl) (G_X5_value (by omega) (q1.2 l0 3) l1 b4 q1 q5 hq5) rfl ?_
  show zzEv _ _ _ _ [.int q5.1] _ _
  refine ev_istore zo_20_108 (zz_set (zz_lg (j := 4) rfl hlv4) (by decide) (Nat.le_of_ble_eq_true rfl)) rfl ?_
  show zzEv _ _ _ [.ref l0, .int l1, lv2, lv3, lv4, .int q5.1] _ _ _
  refine ev_iload zo_20_110 rfl rfl ?_
  refine ev_iload_n zo_20_112 rfl rfl rfl ?_
  refine ev_iconst (x := 2) zo_20_113 (by decide) rfl ?_
  by_cases c6 : l1 = (2 : Int32)
  · rw [if_pos c6] at h
    refine ev_cmp_f (t := 122) zo_20_114 rfl (zcm_nne c6) rfl ?_
    refine ev_bipush (x := (-99)) zo_20_117 (by decide) rfl ?_
    refine ev_goto (t := 123) zo_20_119 rfl ?_
    refine ev_bipush (x := 99) zo_20_123 (by decide) rfl ?_
    obtain ⟨q8, hq8, h⟩ := zz_bd h
    refine ev_cS (as := [.int (99 : Int32), .int (-99 : Int32), .int q5.1]) (lsn := [.int q5.1, .int (-99 : Int32), .int (99 : Int32)]) (by omega) zo_20_125 zl_20_112 (by decide) (by rw [zm_135]; rfl) (by unfold zzIn; rw [zm_135]; rfl) (by rw [zm_135]; exact Nat.le_of_ble_eq_true rfl) (Nat.le_of_ble_eq_true rfl) (G_X6_bounded (by omega) q5.1 (-99 : Int32) (99 : Int32) q5.2 q8 hq8) rfl ?_
    show zzEv _ _ _ _ [.int q8.1] _ _
    obtain rfl := Option.some.inj h
    exact ev_retI zo_20_128 zr_20
  rw [if_neg c6] at h
  refine ev_cmp_t (t := 122) zo_20_114 rfl (zcm_ne c6) ?_
  refine ev_iconst (x := 0) zo_20_122 (by decide) rfl ?_
  refine ev_bipush (x := 99) zo_20_123 (by decide) rfl ?_
  obtain ⟨q7, hq7, h⟩ := zz_bd h
  refine ev_cS (as := [.int (99 : Int32), .int (0 : Int32), .int q5.1]) (lsn := [.int q5.1, .int (0 : Int32), .int (99 : Int32)]) (by omega) zo_20_125 zl_20_112 (by decide) (by rw [zm_135]; rfl) (by unfold zzIn; rw [zm_135]; rfl) (by rw [zm_135]; exact Nat.le_of_ble_eq_true rfl) (Nat.le_of_ble_eq_true rfl) (G_X6_bounded (by omega) q5.1 (0 : Int32) (99 : Int32) q5.2 q7 hq7) rfl ?_
  show zzEv _ _ _ _ [.int q7.1] _ _
  obtain rfl := Option.some.inj h
  exact ev_retI zo_20_128 zr_20
def F_X0_telling (x0 : Nat) (x1 : Int32) (x2 : Int32) (x3 : Int32) (J : zzJ) : Option (Int32 × zzJ) := (if zKd x0 = 0 then (Option.bind (F_X0_seatOf x0 x2 J) fun q10 => (Option.bind (zMR x0 10) fun b11 => (Option.bind (F_X6_put b11 (0 : Int32) (q10.1 / (4 : Int32)) q10.2) fun q12 => (Option.bind (F_X6_put b11 (1 : Int32) (zRem q10.1 (4 : Int32)) q12) fun q13 => (Option.bind (F_X6_put b11 (2 : Int32) x3 q13) fun q14 => (Option.bind (F_X0_numberOf x0 x2 q14) fun q15 => (Option.bind (F_X6_put b11 (3 : Int32) q15.1 q15.2) fun q16 => (Option.bind (F_X0_neighbours x0 x2 q16) fun q17 => (Option.bind (F_X6_put b11 (4 : Int32) q17.1 q17.2) fun q18 => (Option.bind (F_X0_friendOf x0 x2 q18) fun q19 => (Option.bind (F_X0_areBeside x0 x2 q19.1 q19.2) fun q20 => (if q20.1 = (0 : Int32) then F_X0_telling_89 x0 x1 (0 : Int32) (5 : Int32) b11 q20.2 else F_X0_telling_89 x0 x1 (1 : Int32) (5 : Int32) b11 q20.2)))))))))))) else none)
set_option maxRecDepth 100000 in
set_option maxHeartbeats 2000000 in
theorem G_X0_telling {d : Nat} (hd : 2 ≤ d) (x0 : Nat) (x1 : Int32) (x2 : Int32) (x3 : Int32) (J : zzJ) (r : Int32 × zzJ) (h : F_X0_telling x0 x1 x2 x3 J = some r) : zzEv d 20 0 [.ref x0, .int x1, .int x2, .int x3, zzU, zzU] [] (zK J) (some (.int r.1), zK r.2) := by
  unfold F_X0_telling at h
  refine ev_aload_n zo_20_0 rfl rfl rfl rfl ?_
  refine ev_iload_n zo_20_1 rfl rfl rfl ?_
  obtain ⟨c9, h⟩ := zz_chk h
  obtain ⟨q10, hq10, h⟩ := zz_bd h
  refine ev_cV (as := [.int x2]) (lsn := [.ref x0, .int x2]) (by omega) zo_20_2 zl_20_63 (by rw [zm_7]; rfl) (by rw [zm_7]; exact c9) (by rw [zm_7]; decide) (by unfold zzIn; rw [zm_7]; rfl) (by rw [zm_7]; exact Nat.le_of_ble_eq_true rfl) (Nat.le_of_ble_eq_true rfl) (G_X0_seatOf (by omega) x0 x2 J q10 hq10) rfl ?_
  show zzEv _ _ _ _ [.int q10.1] _ _
  refine ev_istore zo_20_5 (zz_set rfl (by decide) (Nat.le_of_ble_eq_true rfl)) rfl ?_
  show zzEv _ _ _ [.ref x0, .int x1, .int x2, .int x3, .int q10.1, zzU] _ _ _
  refine ev_aload_n zo_20_7 rfl rfl rfl rfl ?_
  obtain ⟨b11, eb11, h⟩ := zz_bd h
  refine ev_getR zo_20_8 zf_20_48 (by decide) rfl c9 eb11 rfl ?_
  refine ev_iconst (x := 0) zo_20_11 (by decide) rfl ?_
  refine ev_iload zo_20_12 rfl rfl ?_
  refine ev_iconst (x := 4) zo_20_14 (by decide) rfl ?_
  refine ev_idiv zo_20_15 (by decide) rfl ?_
  obtain ⟨q12, hq12, h⟩ := zz_bd h
  refine ev_cS (as := [.int (q10.1 / (4 : Int32)), .int (0 : Int32), .ref b11]) (lsn := [.ref b11, .int (0 : Int32), .int (q10.1 / (4 : Int32))]) (by omega) zo_20_16 zl_20_55 (by decide) (by rw [zm_126]; rfl) (by unfold zzIn; rw [zm_126]; rfl) (by rw [zm_126]; exact Nat.le_of_ble_eq_true rfl) (Nat.le_of_ble_eq_true rfl) (G_X6_put (by omega) b11 (0 : Int32) (q10.1 / (4 : Int32)) q10.2 q12 hq12) rfl ?_
  show zzEv _ _ _ _ [] _ _
  refine ev_aload_n zo_20_19 rfl rfl rfl rfl ?_
  refine ev_getR zo_20_20 zf_20_48 (by decide) rfl c9 eb11 rfl ?_
  refine ev_iconst (x := 1) zo_20_23 (by decide) rfl ?_
  refine ev_iload zo_20_24 rfl rfl ?_
  refine ev_iconst (x := 4) zo_20_26 (by decide) rfl ?_
  refine ev_irem zo_20_27 (by decide) rfl ?_
  obtain ⟨q13, hq13, h⟩ := zz_bd h
  refine ev_cS (as := [.int (zRem q10.1 (4 : Int32)), .int (1 : Int32), .ref b11]) (lsn := [.ref b11, .int (1 : Int32), .int (zRem q10.1 (4 : Int32))]) (by omega) zo_20_28 zl_20_55 (by decide) (by rw [zm_126]; rfl) (by unfold zzIn; rw [zm_126]; rfl) (by rw [zm_126]; exact Nat.le_of_ble_eq_true rfl) (Nat.le_of_ble_eq_true rfl) (G_X6_put (by omega) b11 (1 : Int32) (zRem q10.1 (4 : Int32)) q12 q13 hq13) rfl ?_
  show zzEv _ _ _ _ [] _ _
  refine ev_aload_n zo_20_31 rfl rfl rfl rfl ?_
  refine ev_getR zo_20_32 zf_20_48 (by decide) rfl c9 eb11 rfl ?_
  refine ev_iconst (x := 2) zo_20_35 (by decide) rfl ?_
  refine ev_iload_n zo_20_36 rfl rfl rfl ?_
  obtain ⟨q14, hq14, h⟩ := zz_bd h
  refine ev_cS (as := [.int x3, .int (2 : Int32), .ref b11]) (lsn := [.ref b11, .int (2 : Int32), .int x3]) (by omega) zo_20_37 zl_20_55 (by decide) (by rw [zm_126]; rfl) (by unfold zzIn; rw [zm_126]; rfl) (by rw [zm_126]; exact Nat.le_of_ble_eq_true rfl) (Nat.le_of_ble_eq_true rfl) (G_X6_put (by omega) b11 (2 : Int32) x3 q13 q14 hq14) rfl ?_
  show zzEv _ _ _ _ [] _ _
  refine ev_aload_n zo_20_40 rfl rfl rfl rfl ?_
  refine ev_getR zo_20_41 zf_20_48 (by decide) rfl c9 eb11 rfl ?_
  refine ev_iconst (x := 3) zo_20_44 (by decide) rfl ?_
  refine ev_aload_n zo_20_45 rfl rfl rfl rfl ?_
  refine ev_iload_n zo_20_46 rfl rfl rfl ?_
  obtain ⟨q15, hq15, h⟩ := zz_bd h
  refine ev_cV (as := [.int x2]) (lsn := [.ref x0, .int x2]) (by omega) zo_20_47 zl_20_93 (by rw [zm_5]; rfl) (by rw [zm_5]; exact c9) (by rw [zm_5]; decide) (by unfold zzIn; rw [zm_5]; rfl) (by rw [zm_5]; exact Nat.le_of_ble_eq_true rfl) (Nat.le_of_ble_eq_true rfl) (G_X0_numberOf (by omega) x0 x2 q14 q15 hq15) rfl ?_
  show zzEv _ _ _ _ [.int q15.1, .int (3 : Int32), .ref b11] _ _
  obtain ⟨q16, hq16, h⟩ := zz_bd h
  refine ev_cS (as := [.int q15.1, .int (3 : Int32), .ref b11]) (lsn := [.ref b11, .int (3 : Int32), .int q15.1]) (by omega) zo_20_50 zl_20_55 (by decide) (by rw [zm_126]; rfl) (by unfold zzIn; rw [zm_126]; rfl) (by rw [zm_126]; exact Nat.le_of_ble_eq_true rfl) (Nat.le_of_ble_eq_true rfl) (G_X6_put (by omega) b11 (3 : Int32) q15.1 q15.2 q16 hq16) rfl ?_
  show zzEv _ _ _ _ [] _ _
  refine ev_aload_n zo_20_53 rfl rfl rfl rfl ?_
  refine ev_getR zo_20_54 zf_20_48 (by decide) rfl c9 eb11 rfl ?_
  refine ev_iconst (x := 4) zo_20_57 (by decide) rfl ?_
  refine ev_aload_n zo_20_58 rfl rfl rfl rfl ?_
  refine ev_iload_n zo_20_59 rfl rfl rfl ?_
  obtain ⟨q17, hq17, h⟩ := zz_bd h
  refine ev_cV (as := [.int x2]) (lsn := [.ref x0, .int x2, zzU, zzU, zzU]) (by omega) zo_20_60 zl_20_96 (by rw [zm_17]; rfl) (by rw [zm_17]; exact c9) (by rw [zm_17]; decide) (by unfold zzIn; rw [zm_17]; rfl) (by rw [zm_17]; exact Nat.le_of_ble_eq_true rfl) (Nat.le_of_ble_eq_true rfl) (G_X0_neighbours (by omega) x0 x2 q16 q17 hq17) rfl ?_
  show zzEv _ _ _ _ [.int q17.1, .int (4 : Int32), .ref b11] _ _
  obtain ⟨q18, hq18, h⟩ := zz_bd h
  refine ev_cS (as := [.int q17.1, .int (4 : Int32), .ref b11]) (lsn := [.ref b11, .int (4 : Int32), .int q17.1]) (by omega) zo_20_63 zl_20_55 (by decide) (by rw [zm_126]; rfl) (by unfold zzIn; rw [zm_126]; rfl) (by rw [zm_126]; exact Nat.le_of_ble_eq_true rfl) (Nat.le_of_ble_eq_true rfl) (G_X6_put (by omega) b11 (4 : Int32) q17.1 q17.2 q18 hq18) rfl ?_
  show zzEv _ _ _ _ [] _ _
  refine ev_aload_n zo_20_66 rfl rfl rfl rfl ?_
  refine ev_getR zo_20_67 zf_20_48 (by decide) rfl c9 eb11 rfl ?_
  refine ev_iconst (x := 5) zo_20_70 (by decide) rfl ?_
  refine ev_aload_n zo_20_71 rfl rfl rfl rfl ?_
  refine ev_iload_n zo_20_72 rfl rfl rfl ?_
  refine ev_aload_n zo_20_73 rfl rfl rfl rfl ?_
  refine ev_iload_n zo_20_74 rfl rfl rfl ?_
  obtain ⟨q19, hq19, h⟩ := zz_bd h
  refine ev_cV (as := [.int x2]) (lsn := [.ref x0, .int x2]) (by omega) zo_20_75 zl_20_99 (by rw [zm_6]; rfl) (by rw [zm_6]; exact c9) (by rw [zm_6]; decide) (by unfold zzIn; rw [zm_6]; rfl) (by rw [zm_6]; exact Nat.le_of_ble_eq_true rfl) (Nat.le_of_ble_eq_true rfl) (G_X0_friendOf (by omega) x0 x2 q18 q19 hq19) rfl ?_
  show zzEv _ _ _ _ [.int q19.1, .int x2, .ref x0, .int (5 : Int32), .ref b11] _ _
  obtain ⟨q20, hq20, h⟩ := zz_bd h
  refine ev_cV (as := [.int q19.1, .int x2]) (lsn := [.ref x0, .int x2, .int q19.1, zzU, zzU]) (by omega) zo_20_78 zl_20_102 (by rw [zm_16]; rfl) (by rw [zm_16]; exact c9) (by rw [zm_16]; decide) (by unfold zzIn; rw [zm_16]; rfl) (by rw [zm_16]; exact Nat.le_of_ble_eq_true rfl) (Nat.le_of_ble_eq_true rfl) (G_X0_areBeside (by omega) x0 x2 q19.1 q19.2 q20 hq20) rfl ?_
  show zzEv _ _ _ _ [.int q20.1, .int (5 : Int32), .ref b11] _ _
  by_cases c21 : q20.1 = (0 : Int32)
  · rw [if_pos c21] at h
    refine ev_if_t (t := 88) zo_20_81 rfl (zcm_eq c21) ?_
    refine ev_iconst (x := 0) zo_20_88 (by decide) rfl ?_
    exact G_X0_telling_89 hd x0 x1 (0 : Int32) (5 : Int32) b11 q20.2 r h (.int x2) rfl (.int x3) rfl (.int q10.1) rfl
  rw [if_neg c21] at h
  refine ev_if_f (t := 88) zo_20_81 rfl (zcm_neq c21) rfl ?_
  refine ev_iconst (x := 1) zo_20_84 (by decide) rfl ?_
  refine ev_goto (t := 89) zo_20_85 rfl ?_
  exact G_X0_telling_89 hd x0 x1 (1 : Int32) (5 : Int32) b11 q20.2 r h (.int x2) rfl (.int x3) rfl (.int q10.1) rfl
/-! X6_noiseBy -/
def F_X6_noiseBy_13 (l0 : Int32) (l1 : Int32) (l3 : Int32) (l4 : Int32) (t0 : Int32) (t1 : Int32) (J : zzJ) : Option (Int32 × zzJ) := (if l0 = 1 then some ((t1 + t0), J) else (if l0 = 2 then some ((l1 / (2 : Int32)), J) else (if l0 = 3 then (if l4 = (0 : Int32) then some (((t1 + t0) + (5 : Int32)), J) else some ((0 : Int32), J)) else (if l0 = 4 then some (((l1 / (2 : Int32)) + l3), J) else (if l0 = 5 then some ((0 : Int32), J) else some (l1, J))))))
set_option maxRecDepth 100000 in
set_option maxHeartbeats 2000000 in
theorem G_X6_noiseBy_13 {d : Nat} (hd : 0 ≤ d) : ∀ (l0 : Int32) (l1 : Int32) (l3 : Int32) (l4 : Int32) (t0 : Int32) (t1 : Int32) (J : zzJ) (r : Int32 × zzJ), F_X6_noiseBy_13 l0 l1 l3 l4 t0 t1 J = some r → ∀ (lv2 : Value) (hlv2 : lv2.category = 1), zzEv d 132 13 [.int l0, .int l1, lv2, .int l3, .int l4, zzU, zzU] [.int t0, .int t1] (zK J) (some (.int r.1), zK r.2) := by
  intro l0 l1 l3 l4 t0 t1 J r h lv2 hlv2
  unfold F_X6_noiseBy_13 at h
  refine ev_iadd zo_132_13 rfl ?_
  refine ev_istore zo_132_14 (zz_set rfl (by decide) (Nat.le_of_ble_eq_true rfl)) rfl ?_
  show zzEv _ _ _ [.int l0, .int l1, lv2, .int l3, .int l4, .int (t1 + t0), zzU] _ _ _
  refine ev_iload_n zo_132_16 rfl rfl rfl ?_
  refine ev_iconst (x := 2) zo_132_17 (by decide) rfl ?_
  refine ev_idiv zo_132_18 (by decide) rfl ?_
  refine ev_istore zo_132_19 (zz_set rfl (by decide) (Nat.le_of_ble_eq_true rfl)) rfl ?_
  show zzEv _ _ _ [.int l0, .int l1, lv2, .int l3, .int l4, .int (t1 + t0), .int (l1 / (2 : Int32))] _ _ _
  refine ev_iload_n zo_132_21 rfl rfl rfl ?_
  by_cases s1 : l0 = 1
  · rw [if_pos s1] at h
    refine ev_tableIn (t := 56) zo_132_22 s1 rfl ?_
    refine ev_iload zo_132_56 rfl rfl ?_
    obtain rfl := Option.some.inj h
    exact ev_retI zo_132_58 zr_132
  rw [if_neg s1] at h
  by_cases s2 : l0 = 2
  · rw [if_pos s2] at h
    refine ev_tableIn (t := 59) zo_132_22 s2 rfl ?_
    refine ev_iload zo_132_59 rfl rfl ?_
    obtain rfl := Option.some.inj h
    exact ev_retI zo_132_61 zr_132
  rw [if_neg s2] at h
  by_cases s3 : l0 = 3
  · rw [if_pos s3] at h
    refine ev_tableIn (t := 62) zo_132_22 s3 rfl ?_
    refine ev_iload zo_132_62 rfl rfl ?_
    by_cases c4 : l4 = (0 : Int32)
    · rw [if_pos c4] at h
      refine ev_if_t (t := 71) zo_132_64 rfl (zcm_eq c4) ?_
      refine ev_iload zo_132_71 rfl rfl ?_
      refine ev_iconst (x := 5) zo_132_73 (by decide) rfl ?_
      refine ev_iadd zo_132_74 rfl ?_
      obtain rfl := Option.some.inj h
      exact ev_retI zo_132_75 zr_132
    rw [if_neg c4] at h
    refine ev_if_f (t := 71) zo_132_64 rfl (zcm_neq c4) rfl ?_
    refine ev_iconst (x := 0) zo_132_67 (by decide) rfl ?_
    refine ev_goto (t := 75) zo_132_68 rfl ?_
    obtain rfl := Option.some.inj h
    exact ev_retI zo_132_75 zr_132
  rw [if_neg s3] at h
  by_cases s5 : l0 = 4
  · rw [if_pos s5] at h
    refine ev_tableIn (t := 76) zo_132_22 s5 rfl ?_
    refine ev_iload zo_132_76 rfl rfl ?_
    refine ev_iload_n zo_132_78 rfl rfl rfl ?_
    refine ev_iadd zo_132_79 rfl ?_
    obtain rfl := Option.some.inj h
    exact ev_retI zo_132_80 zr_132
  rw [if_neg s5] at h
  by_cases s6 : l0 = 5
  · rw [if_pos s6] at h
    refine ev_tableIn (t := 81) zo_132_22 s6 rfl ?_
    refine ev_iconst (x := 0) zo_132_81 (by decide) rfl ?_
    obtain rfl := Option.some.inj h
    exact ev_retI zo_132_82 zr_132
  rw [if_neg s6] at h
  refine ev_tableOut (t := 83) zo_132_22 (sw_out 5 rfl fun k hk => ?_) rfl ?_
  · rcases (show k = 0 ∨ k = 1 ∨ k = 2 ∨ k = 3 ∨ k = 4 by omega) with rfl | rfl | rfl | rfl | rfl
    · exact sw_ne s1 (by decide)
    · exact sw_ne s2 (by decide)
    · exact sw_ne s3 (by decide)
    · exact sw_ne s5 (by decide)
    · exact sw_ne s6 (by decide)
  refine ev_iload_n zo_132_83 rfl rfl rfl ?_
  obtain rfl := Option.some.inj h
  exact ev_retI zo_132_84 zr_132
def F_X6_noiseBy (x0 : Int32) (x1 : Int32) (x2 : Int32) (x3 : Int32) (x4 : Int32) (J : zzJ) : Option (Int32 × zzJ) := (if x2 = (5 : Int32) then F_X6_noiseBy_13 x0 x1 x3 x4 x3 ((2 : Int32) * x1) J else F_X6_noiseBy_13 x0 x1 x3 x4 (0 : Int32) ((2 : Int32) * x1) J)
set_option maxRecDepth 100000 in
set_option maxHeartbeats 2000000 in
theorem G_X6_noiseBy {d : Nat} (hd : 0 ≤ d) (x0 : Int32) (x1 : Int32) (x2 : Int32) (x3 : Int32) (x4 : Int32) (J : zzJ) (r : Int32 × zzJ) (h : F_X6_noiseBy x0 x1 x2 x3 x4 J = some r) : zzEv d 132 0 [.int x0, .int x1, .int x2, .int x3, .int x4, zzU, zzU] [] (zK J) (some (.int r.1), zK r.2) := by
  unfold F_X6_noiseBy at h
  refine ev_iconst (x := 2) zo_132_0 (by decide) rfl ?_
  refine ev_iload_n zo_132_1 rfl rfl rfl ?_
  refine ev_imul zo_132_2 rfl ?_
  refine ev_iload_n zo_132_3 rfl rfl rfl ?_
  refine ev_iconst (x := 5) zo_132_4 (by decide) rfl ?_
  by_cases c7 : x2 = (5 : Int32)
  · rw [if_pos c7] at h
    refine ev_cmp_f (t := 12) zo_132_5 rfl (zcm_nne c7) rfl ?_
    refine ev_iload_n zo_132_8 rfl rfl rfl ?_
    refine ev_goto (t := 13) zo_132_9 rfl ?_
    exact G_X6_noiseBy_13 hd x0 x1 x3 x4 x3 ((2 : Int32) * x1) J r h (.int x2) rfl
  rw [if_neg c7] at h
  refine ev_cmp_t (t := 12) zo_132_5 rfl (zcm_ne c7) ?_
  refine ev_iconst (x := 0) zo_132_12 (by decide) rfl ?_
  exact G_X6_noiseBy_13 hd x0 x1 x3 x4 (0 : Int32) ((2 : Int32) * x1) J r h (.int x2) rfl
