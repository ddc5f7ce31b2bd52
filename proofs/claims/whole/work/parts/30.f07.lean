/-! the methods as functions, and that they are (written by wip/whole/gen2.py) -/
/-! X7_within -/
def F_X7_within (x0 : Int32) (x1 : Int32) (x2 : Int32) (J : zzJ) : Option (Int32 × zzJ) := (if x0 < x1 then some (x1, J) else (if x2 < x0 then some (x2, J) else some (x0, J)))
set_option maxRecDepth 100000 in
set_option maxHeartbeats 2000000 in
theorem G_X7_within {d : Nat} (hd : 0 ≤ d) (x0 : Int32) (x1 : Int32) (x2 : Int32) (J : zzJ) (r : Int32 × zzJ) (h : F_X7_within x0 x1 x2 J = some r) : zzEv d 137 0 [.int x0, .int x1, .int x2] [] (zK J) (some (.int r.1), zK r.2) := by
  unfold F_X7_within at h
  refine ev_iload_n zo_137_0 rfl rfl rfl ?_
  refine ev_iload_n zo_137_1 rfl rfl rfl ?_
  by_cases c1 : x0 < x1
  · rw [if_pos c1] at h
    refine ev_cmp_f (t := 9) zo_137_2 rfl (zcm_nge c1) rfl ?_
    refine ev_iload_n zo_137_5 rfl rfl rfl ?_
    refine ev_goto (t := 19) zo_137_6 rfl ?_
    obtain rfl := Option.some.inj h
    exact ev_retI zo_137_19 zr_137
  rw [if_neg c1] at h
  refine ev_cmp_t (t := 9) zo_137_2 rfl (zcm_ge c1) ?_
  refine ev_iload_n zo_137_9 rfl rfl rfl ?_
  refine ev_iload_n zo_137_10 rfl rfl rfl ?_
  by_cases c2 : x2 < x0
  · rw [if_pos c2] at h
    refine ev_cmp_f (t := 18) zo_137_11 rfl (zcm_nle c2) rfl ?_
    refine ev_iload_n zo_137_14 rfl rfl rfl ?_
    refine ev_goto (t := 19) zo_137_15 rfl ?_
    obtain rfl := Option.some.inj h
    exact ev_retI zo_137_19 zr_137
  rw [if_neg c2] at h
  refine ev_cmp_t (t := 18) zo_137_11 rfl (zcm_le c2) ?_
  refine ev_iload_n zo_137_18 rfl rfl rfl ?_
  obtain rfl := Option.some.inj h
  exact ev_retI zo_137_19 zr_137
/-! X7_spell -/
def F_X7_spell (x1 : Int32) (x2 : Int32) (x3 : Int32) (x4 : Int32) (x5 : Int32) (x6 : Int32) (x7 : Int32) (x8 : Int32) (x9 : Int32) (J : zzJ) : Option (zzJ) := (if zzIx x1 960 then (if zzIx (x1 + (1 : Int32)) 960 then (if zzIx (x1 + (2 : Int32)) 960 then (if zzIx (x1 + (3 : Int32)) 960 then (if zzIx (x1 + (4 : Int32)) 960 then (if zzIx (x1 + (5 : Int32)) 960 then (if zzIx (x1 + (6 : Int32)) 960 then (if zzIx (x1 + (7 : Int32)) 960 then some (wI (wI (wI (wI (wI (wI (wI (wI J 47 x1.toNatClampNeg x2) 47 (x1 + (1 : Int32)).toNatClampNeg x3) 47 (x1 + (2 : Int32)).toNatClampNeg x4) 47 (x1 + (3 : Int32)).toNatClampNeg x5) 47 (x1 + (4 : Int32)).toNatClampNeg x6) 47 (x1 + (5 : Int32)).toNatClampNeg x7) 47 (x1 + (6 : Int32)).toNatClampNeg x8) 47 (x1 + (7 : Int32)).toNatClampNeg x9) else none) else none) else none) else none) else none) else none) else none) else none)
set_option maxRecDepth 100000 in
set_option maxHeartbeats 2000000 in
theorem G_X7_spell {d : Nat} (hd : 0 ≤ d) (x1 : Int32) (x2 : Int32) (x3 : Int32) (x4 : Int32) (x5 : Int32) (x6 : Int32) (x7 : Int32) (x8 : Int32) (x9 : Int32) (J : zzJ) (r : zzJ) (h : F_X7_spell x1 x2 x3 x4 x5 x6 x7 x8 x9 J = some r) : zzEv d 139 0 [.ref 46, .int x1, .int x2, .int x3, .int x4, .int x5, .int x6, .int x7, .int x8, .int x9] [] (zK J) (none, zK r) := by
  unfold F_X7_spell at h
  refine ev_aload_n zo_139_0 rfl rfl rfl rfl ?_
  refine ev_getR zo_139_1 zf_139_13 (by decide) rfl rfl rfl rfl ?_
  refine ev_iload_n zo_139_4 rfl rfl rfl ?_
  refine ev_iload_n zo_139_5 rfl rfl rfl ?_
  obtain ⟨c1, h⟩ := zz_chk h
  refine ev_iast zo_139_6 rfl c1 rfl ?_
  refine ev_aload_n zo_139_7 rfl rfl rfl rfl ?_
  refine ev_getR zo_139_8 zf_139_13 (by decide) rfl rfl rfl rfl ?_
  refine ev_iload_n zo_139_11 rfl rfl rfl ?_
  refine ev_iconst (x := 1) zo_139_12 (by decide) rfl ?_
  refine ev_iadd zo_139_13 rfl ?_
  refine ev_iload_n zo_139_14 rfl rfl rfl ?_
  obtain ⟨c2, h⟩ := zz_chk h
  refine ev_iast zo_139_15 rfl c2 rfl ?_
  refine ev_aload_n zo_139_16 rfl rfl rfl rfl ?_
  refine ev_getR zo_139_17 zf_139_13 (by decide) rfl rfl rfl rfl ?_
  refine ev_iload_n zo_139_20 rfl rfl rfl ?_
  refine ev_iconst (x := 2) zo_139_21 (by decide) rfl ?_
  refine ev_iadd zo_139_22 rfl ?_
  refine ev_iload zo_139_23 rfl rfl ?_
  obtain ⟨c3, h⟩ := zz_chk h
  refine ev_iast zo_139_25 rfl c3 rfl ?_
  refine ev_aload_n zo_139_26 rfl rfl rfl rfl ?_
  refine ev_getR zo_139_27 zf_139_13 (by decide) rfl rfl rfl rfl ?_
  refine ev_iload_n zo_139_30 rfl rfl rfl ?_
  refine ev_iconst (x := 3) zo_139_31 (by decide) rfl ?_
  refine ev_iadd zo_139_32 rfl ?_
  refine ev_iload zo_139_33 rfl rfl ?_
  obtain ⟨c4, h⟩ := zz_chk h
  refine ev_iast zo_139_35 rfl c4 rfl ?_
  refine ev_aload_n zo_139_36 rfl rfl rfl rfl ?_
  refine ev_getR zo_139_37 zf_139_13 (by decide) rfl rfl rfl rfl ?_
  refine ev_iload_n zo_139_40 rfl rfl rfl ?_
  refine ev_iconst (x := 4) zo_139_41 (by decide) rfl ?_
  refine ev_iadd zo_139_42 rfl ?_
  refine ev_iload zo_139_43 rfl rfl ?_
  obtain ⟨c5, h⟩ := zz_chk h
  refine ev_iast zo_139_45 rfl c5 rfl ?_
  refine ev_aload_n zo_139_46 rfl rfl rfl rfl ?_
  refine ev_getR zo_139_47 zf_139_13 (by decide) rfl rfl rfl rfl ?_
  refine ev_iload_n zo_139_50 rfl rfl rfl ?_
  refine ev_iconst (x := 5) zo_139_51 (by decide) rfl ?_
  refine ev_iadd zo_139_52 rfl ?_
  refine ev_iload zo_139_53 rfl rfl ?_
  obtain ⟨c6, h⟩ := zz_chk h
  refine ev_iast zo_139_55 rfl c6 rfl ?_
  refine ev_aload_n zo_139_56 rfl rfl rfl rfl ?_
  refine ev_getR zo_139_57 zf_139_13 (by decide) rfl rfl rfl rfl ?_
  refine ev_iload_n zo_139_60 rfl rfl rfl ?_
  refine ev_bipush (x := 6) zo_139_61 (by decide) rfl ?_
  refine ev_iadd zo_139_63 rfl ?_
  refine ev_iload zo_139_64 rfl rfl ?_
  obtain ⟨c7, h⟩ := zz_chk h
  refine ev_iast zo_139_66 rfl c7 rfl ?_
  refine ev_aload_n zo_139_67 rfl rfl rfl rfl ?_
  refine ev_getR zo_139_68 zf_139_13 (by decide) rfl rfl rfl rfl ?_
  refine ev_iload_n zo_139_71 rfl rfl rfl ?_
  refine ev_bipush (x := 7) zo_139_72 (by decide) rfl ?_
  refine ev_iadd zo_139_74 rfl ?_
  refine ev_iload zo_139_75 rfl rfl ?_
  obtain ⟨c8, h⟩ := zz_chk h
  refine ev_iast zo_139_77 rfl c8 rfl ?_
  obtain rfl := Option.some.inj h
  exact ev_retV zo_139_78 zr_139
/-! X7_isOne -/
def F_X7_isOne (x1 : Int32) (J : zzJ) : Option (Int32 × zzJ) := (Option.bind (F_X7_in x1.toInt64 (0 : Int64) ((J.2 46 14) - (1 : Int32)).toInt64 J) fun q1 => (if q1.1 = 0 ∨ q1.1 = 1 then some (q1.1, q1.2) else none))
set_option maxRecDepth 100000 in
set_option maxHeartbeats 2000000 in
theorem G_X7_isOne {d : Nat} (hd : 1 ≤ d) (x1 : Int32) (J : zzJ) (r : Int32 × zzJ) (h : F_X7_isOne x1 J = some r) : zzEv d 140 0 [.ref 46, .int x1] [] (zK J) (some (.int r.1), zK r.2) := by
  unfold F_X7_isOne at h
  refine ev_iload_n zo_140_0 rfl rfl rfl ?_
  refine ev_i2l zo_140_1 rfl ?_
  refine ev_lconst (x := 0) zo_140_2 (by decide) rfl ?_
  refine ev_aload_n zo_140_3 rfl rfl rfl rfl ?_
  refine ev_getI zo_140_4 zf_140_85 (by decide) (Or.inl rfl) rfl rfl ?_
  refine ev_iconst (x := 1) zo_140_7 (by decide) rfl ?_
  refine ev_isub zo_140_8 rfl ?_
  refine ev_i2l zo_140_9 rfl ?_
  obtain ⟨q1, hq1, h⟩ := zz_bd h
  refine ev_cS (as := [.long ((J.2 46 14) - (1 : Int32)).toInt64, .long (0 : Int64), .long x1.toInt64]) (lsn := [.long x1.toInt64, zzU, .long (0 : Int64), zzU, .long ((J.2 46 14) - (1 : Int32)).toInt64, zzU]) (by omega) zo_140_10 zl_140_88 (by decide) (by rw [zm_136]; rfl) (by unfold zzIn; rw [zm_136]; rfl) (by rw [zm_136]; exact Nat.le_of_ble_eq_true rfl) (Nat.le_of_ble_eq_true rfl) (G_X7_in (by omega) x1.toInt64 (0 : Int64) ((J.2 46 14) - (1 : Int32)).toInt64 J q1 hq1) rfl ?_
  show zzEv _ _ _ _ [.int q1.1] _ _
  obtain ⟨c2, h⟩ := zz_chk h
  obtain rfl := Option.some.inj h
  exact ev_retZ zo_140_13 zr_140 c2
/-! X7_isSeat -/
def F_X7_isSeat (x0 : Int32) (J : zzJ) : Option (Int32 × zzJ) := (Option.bind (F_X7_in x0.toInt64 (0 : Int64) (23 : Int64) J) fun q1 => (if q1.1 = 0 ∨ q1.1 = 1 then some (q1.1, q1.2) else none))
set_option maxRecDepth 100000 in
set_option maxHeartbeats 2000000 in
theorem G_X7_isSeat {d : Nat} (hd : 1 ≤ d) (x0 : Int32) (J : zzJ) (r : Int32 × zzJ) (h : F_X7_isSeat x0 J = some r) : zzEv d 141 0 [.int x0] [] (zK J) (some (.int r.1), zK r.2) := by
  unfold F_X7_isSeat at h
  refine ev_iload_n zo_141_0 rfl rfl rfl ?_
  refine ev_i2l zo_141_1 rfl ?_
  refine ev_lconst (x := 0) zo_141_2 (by decide) rfl ?_
  refine ev_ldc2 zo_141_3 zc_141_92 rfl ?_
  obtain ⟨q1, hq1, h⟩ := zz_bd h
  refine ev_cS (as := [.long (23 : Int64), .long (0 : Int64), .long x0.toInt64]) (lsn := [.long x0.toInt64, zzU, .long (0 : Int64), zzU, .long (23 : Int64), zzU]) (by omega) zo_141_6 zl_141_88 (by decide) (by rw [zm_136]; rfl) (by unfold zzIn; rw [zm_136]; rfl) (by rw [zm_136]; exact Nat.le_of_ble_eq_true rfl) (Nat.le_of_ble_eq_true rfl) (G_X7_in (by omega) x0.toInt64 (0 : Int64) (23 : Int64) J q1 hq1) rfl ?_
  show zzEv _ _ _ _ [.int q1.1] _ _
  obtain ⟨c2, h⟩ := zz_chk h
  obtain rfl := Option.some.inj h
  exact ev_retZ zo_141_9 zr_141 c2
/-! X7_isValue -/
def F_X7_isValue (x1 : Int32) (x2 : Int32) (x3 : Int32) (J : zzJ) : Option (Int32 × zzJ) := (if x1 = (3 : Int32) then (if x3 = (-1 : Int32) then some ((1 : Int32), J) else (Option.bind (F_X7_isOne x3 J) fun q11 => (if q11.1 = (0 : Int32) then some ((0 : Int32), q11.2) else (if x3 = x2 then some ((0 : Int32), q11.2) else some ((1 : Int32), q11.2))))) else (if x1 = (0 : Int32) then (Option.bind (F_X7_in x3.toInt64 (0 : Int64) (99 : Int64) J) fun q8 => (if q8.1 = 0 ∨ q8.1 = 1 then some (q8.1, q8.2) else none)) else (if x1 = (1 : Int32) then (Option.bind (F_X7_in x3.toInt64 (0 : Int64) (999 : Int64) J) fun q6 => (if q6.1 = 0 ∨ q6.1 = 1 then some (q6.1, q6.2) else none)) else (Option.bind (F_X7_in x3.toInt64 (0 : Int64) (9 : Int64) J) fun q4 => (if q4.1 = 0 ∨ q4.1 = 1 then some (q4.1, q4.2) else none)))))
set_option maxRecDepth 100000 in
set_option maxHeartbeats 2000000 in
theorem G_X7_isValue {d : Nat} (hd : 2 ≤ d) (x1 : Int32) (x2 : Int32) (x3 : Int32) (J : zzJ) (r : Int32 × zzJ) (h : F_X7_isValue x1 x2 x3 J = some r) : zzEv d 142 0 [.ref 46, .int x1, .int x2, .int x3] [] (zK J) (some (.int r.1), zK r.2) := by
  unfold F_X7_isValue at h
  refine ev_iload_n zo_142_0 rfl rfl rfl ?_
  refine ev_iconst (x := 3) zo_142_1 (by decide) rfl ?_
  by_cases c1 : x1 = (3 : Int32)
  · rw [if_pos c1] at h
    refine ev_cmp_f (t := 29) zo_142_2 rfl (zcm_nne c1) rfl ?_
    refine ev_iload_n zo_142_5 rfl rfl rfl ?_
    refine ev_iconst (x := (-1)) zo_142_6 (by decide) rfl ?_
    by_cases c10 : x3 = (-1 : Int32)
    · rw [if_pos c10] at h
      refine ev_cmp_t (t := 23) zo_142_7 rfl (zcm_eq c10) ?_
      refine ev_iconst (x := 1) zo_142_23 (by decide) rfl ?_
      refine ev_goto (t := 28) zo_142_24 rfl ?_
      obtain rfl := Option.some.inj h
      exact ev_retZ zo_142_28 zr_142 (Or.inr rfl)
    rw [if_neg c10] at h
    refine ev_cmp_f (t := 23) zo_142_7 rfl (zcm_neq c10) rfl ?_
    refine ev_aload_n zo_142_10 rfl rfl rfl rfl ?_
    refine ev_iload_n zo_142_11 rfl rfl rfl ?_
    obtain ⟨q11, hq11, h⟩ := zz_bd h
    refine ev_cV (as := [.int x3]) (lsn := [.ref 46, .int x3]) (by omega) zo_142_12 zl_142_94 (by rw [zm_140]; rfl) (by rw [zm_140]; exact rfl) (by rw [zm_140]; decide) (by unfold zzIn; rw [zm_140]; rfl) (by rw [zm_140]; exact Nat.le_of_ble_eq_true rfl) (Nat.le_of_ble_eq_true rfl) (G_X7_isOne (by omega) x3 J q11 hq11) rfl ?_
    show zzEv _ _ _ _ [.int q11.1] _ _
    by_cases c12 : q11.1 = (0 : Int32)
    · rw [if_pos c12] at h
      refine ev_if_t (t := 27) zo_142_15 rfl (zcm_eq c12) ?_
      refine ev_iconst (x := 0) zo_142_27 (by decide) rfl ?_
      obtain rfl := Option.some.inj h
      exact ev_retZ zo_142_28 zr_142 (Or.inl rfl)
    rw [if_neg c12] at h
    refine ev_if_f (t := 27) zo_142_15 rfl (zcm_neq c12) rfl ?_
    refine ev_iload_n zo_142_18 rfl rfl rfl ?_
    refine ev_iload_n zo_142_19 rfl rfl rfl ?_
    by_cases c13 : x3 = x2
    · rw [if_pos c13] at h
      refine ev_cmp_t (t := 27) zo_142_20 rfl (zcm_eq c13) ?_
      refine ev_iconst (x := 0) zo_142_27 (by decide) rfl ?_
      obtain rfl := Option.some.inj h
      exact ev_retZ zo_142_28 zr_142 (Or.inl rfl)
    rw [if_neg c13] at h
    refine ev_cmp_f (t := 27) zo_142_20 rfl (zcm_neq c13) rfl ?_
    refine ev_iconst (x := 1) zo_142_23 (by decide) rfl ?_
    refine ev_goto (t := 28) zo_142_24 rfl ?_
    obtain rfl := Option.some.inj h
    exact ev_retZ zo_142_28 zr_142 (Or.inr rfl)
  rw [if_neg c1] at h
  refine ev_cmp_t (t := 29) zo_142_2 rfl (zcm_ne c1) ?_
  refine ev_iload_n zo_142_29 rfl rfl rfl ?_
  refine ev_i2l zo_142_30 rfl ?_
  refine ev_lconst (x := 0) zo_142_31 (by decide) rfl ?_
  refine ev_iload_n zo_142_32 rfl rfl rfl ?_
  by_cases c2 : x1 = (0 : Int32)
  · rw [if_pos c2] at h
    refine ev_if_f (t := 42) zo_142_33 rfl (zcm_nne c2) rfl ?_
    refine ev_ldc2 zo_142_36 zc_142_98 rfl ?_
    refine ev_goto (t := 56) zo_142_39 rfl ?_
    obtain ⟨q8, hq8, h⟩ := zz_bd h
    refine ev_cS (as := [.long (99 : Int64), .long (0 : Int64), .long x3.toInt64]) (lsn := [.long x3.toInt64, zzU, .long (0 : Int64), zzU, .long (99 : Int64), zzU]) (by omega) zo_142_56 zl_142_88 (by decide) (by rw [zm_136]; rfl) (by unfold zzIn; rw [zm_136]; rfl) (by rw [zm_136]; exact Nat.le_of_ble_eq_true rfl) (Nat.le_of_ble_eq_true rfl) (G_X7_in (by omega) x3.toInt64 (0 : Int64) (99 : Int64) J q8 hq8) rfl ?_
    show zzEv _ _ _ _ [.int q8.1] _ _
    obtain ⟨c9, h⟩ := zz_chk h
    obtain rfl := Option.some.inj h
    exact ev_retZ zo_142_59 zr_142 c9
  rw [if_neg c2] at h
  refine ev_if_t (t := 42) zo_142_33 rfl (zcm_ne c2) ?_
  refine ev_iload_n zo_142_42 rfl rfl rfl ?_
  refine ev_iconst (x := 1) zo_142_43 (by decide) rfl ?_
  by_cases c3 : x1 = (1 : Int32)
  · rw [if_pos c3] at h
    refine ev_cmp_f (t := 53) zo_142_44 rfl (zcm_nne c3) rfl ?_
    refine ev_ldc2 zo_142_47 zc_142_100 rfl ?_
    refine ev_goto (t := 56) zo_142_50 rfl ?_
    obtain ⟨q6, hq6, h⟩ := zz_bd h
    refine ev_cS (as := [.long (999 : Int64), .long (0 : Int64), .long x3.toInt64]) (lsn := [.long x3.toInt64, zzU, .long (0 : Int64), zzU, .long (999 : Int64), zzU]) (by omega) zo_142_56 zl_142_88 (by decide) (by rw [zm_136]; rfl) (by unfold zzIn; rw [zm_136]; rfl) (by rw [zm_136]; exact Nat.le_of_ble_eq_true rfl) (Nat.le_of_ble_eq_true rfl) (G_X7_in (by omega) x3.toInt64 (0 : Int64) (999 : Int64) J q6 hq6) rfl ?_
    show zzEv _ _ _ _ [.int q6.1] _ _
    obtain ⟨c7, h⟩ := zz_chk h
    obtain rfl := Option.some.inj h
    exact ev_retZ zo_142_59 zr_142 c7
  rw [if_neg c3] at h
  refine ev_cmp_t (t := 53) zo_142_44 rfl (zcm_ne c3) ?_
  refine ev_ldc2 zo_142_53 zc_142_102 rfl ?_
  obtain ⟨q4, hq4, h⟩ := zz_bd h
  refine ev_cS (as := [.long (9 : Int64), .long (0 : Int64), .long x3.toInt64]) (lsn := [.long x3.toInt64, zzU, .long (0 : Int64), zzU, .long (9 : Int64), zzU]) (by omega) zo_142_56 zl_142_88 (by decide) (by rw [zm_136]; rfl) (by unfold zzIn; rw [zm_136]; rfl) (by rw [zm_136]; exact Nat.le_of_ble_eq_true rfl) (Nat.le_of_ble_eq_true rfl) (G_X7_in (by omega) x3.toInt64 (0 : Int64) (9 : Int64) J q4 hq4) rfl ?_
  show zzEv _ _ _ _ [.int q4.1] _ _
  obtain ⟨c5, h⟩ := zz_chk h
  obtain rfl := Option.some.inj h
  exact ev_retZ zo_142_59 zr_142 c5
/-! X7_lays -/
def F_X7_lays (x1 : Int32) (x2 : Int32) (x3 : Int32) (J : zzJ) : Option (zzJ) := (if x1 = (0 : Int32) then some (wI J 46 7 x3) else (if x1 = (1 : Int32) then some (wI J 46 8 x3) else (if x1 = (2 : Int32) then (if zzIx x2 8 then some (wI J 51 x2.toNatClampNeg x3) else none) else (if x1 = (3 : Int32) then (if zzIx x2 8 then some (wI J 52 x2.toNatClampNeg x3) else none) else (if x1 = (4 : Int32) then (if zzIx x2 8 then some (wI J 50 x2.toNatClampNeg x3) else none) else some (wI J 46 4 x3))))))
set_option maxRecDepth 100000 in
set_option maxHeartbeats 2000000 in
theorem G_X7_lays {d : Nat} (hd : 0 ≤ d) (x1 : Int32) (x2 : Int32) (x3 : Int32) (J : zzJ) (r : zzJ) (h : F_X7_lays x1 x2 x3 J = some r) : zzEv d 144 0 [.ref 46, .int x1, .int x2, .int x3] [] (zK J) (none, zK r) := by
  unfold F_X7_lays at h
  refine ev_iload_n zo_144_0 rfl rfl rfl ?_
  by_cases c1 : x1 = (0 : Int32)
  · rw [if_pos c1] at h
    refine ev_if_f (t := 12) zo_144_1 rfl (zcm_nne c1) rfl ?_
    refine ev_aload_n zo_144_4 rfl rfl rfl rfl ?_
    refine ev_iload_n zo_144_5 rfl rfl rfl ?_
    refine ev_putI zo_144_6 zf_144_118 (by decide) rfl rfl rfl rfl ?_
    refine ev_goto (t := 75) zo_144_9 rfl ?_
    obtain rfl := Option.some.inj h
    exact ev_retV zo_144_75 zr_144
  rw [if_neg c1] at h
  refine ev_if_t (t := 12) zo_144_1 rfl (zcm_ne c1) ?_
  refine ev_iload_n zo_144_12 rfl rfl rfl ?_
  refine ev_iconst (x := 1) zo_144_13 (by decide) rfl ?_
  by_cases c2 : x1 = (1 : Int32)
  · rw [if_pos c2] at h
    refine ev_cmp_f (t := 25) zo_144_14 rfl (zcm_nne c2) rfl ?_
    refine ev_aload_n zo_144_17 rfl rfl rfl rfl ?_
    refine ev_iload_n zo_144_18 rfl rfl rfl ?_
    refine ev_putI zo_144_19 zf_144_23 (by decide) rfl rfl rfl rfl ?_
    refine ev_goto (t := 75) zo_144_22 rfl ?_
    obtain rfl := Option.some.inj h
    exact ev_retV zo_144_75 zr_144
  rw [if_neg c2] at h
  refine ev_cmp_t (t := 25) zo_144_14 rfl (zcm_ne c2) ?_
  refine ev_iload_n zo_144_25 rfl rfl rfl ?_
  refine ev_iconst (x := 2) zo_144_26 (by decide) rfl ?_
  by_cases c3 : x1 = (2 : Int32)
  · rw [if_pos c3] at h
    refine ev_cmp_f (t := 40) zo_144_27 rfl (zcm_nne c3) rfl ?_
    refine ev_aload_n zo_144_30 rfl rfl rfl rfl ?_
    refine ev_getR zo_144_31 zf_144_29 (by decide) rfl rfl rfl rfl ?_
    refine ev_iload_n zo_144_34 rfl rfl rfl ?_
    refine ev_iload_n zo_144_35 rfl rfl rfl ?_
    obtain ⟨c8, h⟩ := zz_chk h
    refine ev_iast zo_144_36 rfl c8 rfl ?_
    refine ev_goto (t := 75) zo_144_37 rfl ?_
    obtain rfl := Option.some.inj h
    exact ev_retV zo_144_75 zr_144
  rw [if_neg c3] at h
  refine ev_cmp_t (t := 40) zo_144_27 rfl (zcm_ne c3) ?_
  refine ev_iload_n zo_144_40 rfl rfl rfl ?_
  refine ev_iconst (x := 3) zo_144_41 (by decide) rfl ?_
  by_cases c4 : x1 = (3 : Int32)
  · rw [if_pos c4] at h
    refine ev_cmp_f (t := 55) zo_144_42 rfl (zcm_nne c4) rfl ?_
    refine ev_aload_n zo_144_45 rfl rfl rfl rfl ?_
    refine ev_getR zo_144_46 zf_144_32 (by decide) rfl rfl rfl rfl ?_
    refine ev_iload_n zo_144_49 rfl rfl rfl ?_
    refine ev_iload_n zo_144_50 rfl rfl rfl ?_
    obtain ⟨c7, h⟩ := zz_chk h
    refine ev_iast zo_144_51 rfl c7 rfl ?_
    refine ev_goto (t := 75) zo_144_52 rfl ?_
    obtain rfl := Option.some.inj h
    exact ev_retV zo_144_75 zr_144
  rw [if_neg c4] at h
  refine ev_cmp_t (t := 55) zo_144_42 rfl (zcm_ne c4) ?_
  refine ev_iload_n zo_144_55 rfl rfl rfl ?_
  refine ev_iconst (x := 4) zo_144_56 (by decide) rfl ?_
  by_cases c5 : x1 = (4 : Int32)
  · rw [if_pos c5] at h
    refine ev_cmp_f (t := 70) zo_144_57 rfl (zcm_nne c5) rfl ?_
    refine ev_aload_n zo_144_60 rfl rfl rfl rfl ?_
    refine ev_getR zo_144_61 zf_144_26 (by decide) rfl rfl rfl rfl ?_
    refine ev_iload_n zo_144_64 rfl rfl rfl ?_
    refine ev_iload_n zo_144_65 rfl rfl rfl ?_
    obtain ⟨c6, h⟩ := zz_chk h
    refine ev_iast zo_144_66 rfl c6 rfl ?_
    refine ev_goto (t := 75) zo_144_67 rfl ?_
    obtain rfl := Option.some.inj h
    exact ev_retV zo_144_75 zr_144
  rw [if_neg c5] at h
  refine ev_cmp_t (t := 70) zo_144_57 rfl (zcm_ne c5) ?_
  refine ev_aload_n zo_144_70 rfl rfl rfl rfl ?_
  refine ev_iload_n zo_144_71 rfl rfl rfl ?_
  refine ev_putI zo_144_72 zf_144_121 (by decide) rfl rfl rfl rfl ?_
  obtain rfl := Option.some.inj h
  exact ev_retV zo_144_75 zr_144
/-! X7_neighbour -/
def F_X7_neighbour_85 (l2 : Int32) (l3 : Int32) (J : zzJ) : Option (Int32 × zzJ) := (if zzIx (l3 + l2) 24 then some ((J.2 54 (l3 + l2).toNatClampNeg), J) else none)
set_option maxRecDepth 100000 in
set_option maxHeartbeats 2000000 in
theorem G_X7_neighbour_85 {d : Nat} (hd : 1 ≤ d) : ∀ (l2 : Int32) (l3 : Int32) (J : zzJ) (r : Int32 × zzJ), F_X7_neighbour_85 l2 l3 J = some r → ∀ (lv1 : Value) (hlv1 : lv1.category = 1), ∀ (lv4 : Value) (hlv4 : lv4.category = 1), ∀ (lv5 : Value) (hlv5 : lv5.category = 1), zzEv d 169 85 [.ref 46, lv1, .int l2, .int l3, lv4, lv5] [] (zK J) (some (.int r.1), zK r.2) := by
  intro l2 l3 J r h lv1 hlv1 lv4 hlv4 lv5 hlv5
  unfold F_X7_neighbour_85 at h
  refine ev_aload_n zo_169_85 rfl rfl rfl rfl ?_
  refine ev_getR zo_169_86 zf_169_38 (by decide) rfl rfl rfl rfl ?_
  refine ev_iload_n zo_169_89 rfl rfl rfl ?_
  refine ev_iload_n zo_169_90 rfl rfl rfl ?_
  refine ev_iadd zo_169_91 rfl ?_
  obtain ⟨c1, h⟩ := zz_chk h
  refine ev_iald zo_169_92 rfl c1 rfl ?_
  obtain rfl := Option.some.inj h
  exact ev_retI zo_169_93 zr_169
def F_X7_neighbour_67 (l2 : Int32) (l3 : Int32) (t0 : Int32) (J : zzJ) : Option (Int32 × zzJ) := (if t0 = (0 : Int32) then F_X7_neighbour_85 l2 l3 J else (if (l3 / (4 : Int32)) = (5 : Int32) then F_X7_neighbour_85 l2 l3 J else some ((-1 : Int32), J)))
set_option maxRecDepth 100000 in
set_option maxHeartbeats 2000000 in
theorem G_X7_neighbour_67 {d : Nat} (hd : 1 ≤ d) : ∀ (l2 : Int32) (l3 : Int32) (t0 : Int32) (J : zzJ) (r : Int32 × zzJ), F_X7_neighbour_67 l2 l3 t0 J = some r → ∀ (lv1 : Value) (hlv1 : lv1.category = 1), ∀ (lv4 : Value) (hlv4 : lv4.category = 1), zzEv d 169 67 [.ref 46, lv1, .int l2, .int l3, lv4, zzU] [.int t0] (zK J) (some (.int r.1), zK r.2) := by
  intro l2 l3 t0 J r h lv1 hlv1 lv4 hlv4
  unfold F_X7_neighbour_67 at h
  refine ev_istore zo_169_67 (zz_set (zz_lg (j := 4) rfl hlv4) (by decide) (Nat.le_of_ble_eq_true rfl)) rfl ?_
  show zzEv _ _ _ [.ref 46, lv1, .int l2, .int l3, lv4, .int t0] _ _ _
  refine ev_iload zo_169_69 rfl rfl ?_
  by_cases c2 : t0 = (0 : Int32)
  · rw [if_pos c2] at h
    refine ev_if_t (t := 85) zo_169_71 rfl (zcm_eq c2) ?_
    exact G_X7_neighbour_85 hd l2 l3 J r h (lv1) hlv1 (lv4) hlv4 (.int t0) rfl
  rw [if_neg c2] at h
  refine ev_if_f (t := 85) zo_169_71 rfl (zcm_neq c2) rfl ?_
  refine ev_iload_n zo_169_74 rfl rfl rfl ?_
  refine ev_iconst (x := 4) zo_169_75 (by decide) rfl ?_
  refine ev_idiv zo_169_76 (by decide) rfl ?_
  refine ev_iconst (x := 5) zo_169_77 (by decide) rfl ?_
  by_cases c3 : (l3 / (4 : Int32)) = (5 : Int32)
  · rw [if_pos c3] at h
    refine ev_cmp_t (t := 85) zo_169_78 rfl (zcm_eq c3) ?_
    exact G_X7_neighbour_85 hd l2 l3 J r h (lv1) hlv1 (lv4) hlv4 (.int t0) rfl
  rw [if_neg c3] at h
  refine ev_cmp_f (t := 85) zo_169_78 rfl (zcm_neq c3) rfl ?_
  refine ev_iconst (x := (-1)) zo_169_81 (by decide) rfl ?_
  refine ev_goto (t := 93) zo_169_82 rfl ?_
  obtain rfl := Option.some.inj h
  exact ev_retI zo_169_93 zr_169
def F_X7_neighbour_66 (l2 : Int32) (l3 : Int32) (J : zzJ) : Option (Int32 × zzJ) := F_X7_neighbour_67 l2 l3 (0 : Int32) J
set_option maxRecDepth 100000 in
set_option maxHeartbeats 2000000 in
theorem G_X7_neighbour_66 {d : Nat} (hd : 1 ≤ d) : ∀ (l2 : Int32) (l3 : Int32) (J : zzJ) (r : Int32 × zzJ), F_X7_neighbour_66 l2 l3 J = some r → ∀ (lv1 : Value) (hlv1 : lv1.category = 1), ∀ (lv4 : Value) (hlv4 : lv4.category = 1), zzEv d 169 66 [.ref 46, lv1, .int l2, .int l3, lv4, zzU] [] (zK J) (some (.int r.1), zK r.2) := by
  intro l2 l3 J r h lv1 hlv1 lv4 hlv4
  unfold F_X7_neighbour_66 at h
  refine ev_iconst (x := 0) zo_169_66 (by decide) rfl ?_
  exact G_X7_neighbour_67 hd l2 l3 (0 : Int32) J r h (lv1) hlv1 (lv4) hlv4
def F_X7_neighbour_62 (l2 : Int32) (l3 : Int32) (J : zzJ) : Option (Int32 × zzJ) := F_X7_neighbour_67 l2 l3 (1 : Int32) J
set_option maxRecDepth 100000 in
set_option maxHeartbeats 2000000 in
theorem G_X7_neighbour_62 {d : Nat} (hd : 1 ≤ d) : ∀ (l2 : Int32) (l3 : Int32) (J : zzJ) (r : Int32 × zzJ), F_X7_neighbour_62 l2 l3 J = some r → ∀ (lv1 : Value) (hlv1 : lv1.category = 1), ∀ (lv4 : Value) (hlv4 : lv4.category = 1), zzEv d 169 62 [.ref 46, lv1, .int l2, .int l3, lv4, zzU] [] (zK J) (some (.int r.1), zK r.2) := by
  intro l2 l3 J r h lv1 hlv1 lv4 hlv4
  unfold F_X7_neighbour_62 at h
  refine ev_iconst (x := 1) zo_169_62 (by decide) rfl ?_
  refine ev_goto (t := 67) zo_169_63 rfl ?_
  exact G_X7_neighbour_67 hd l2 l3 (1 : Int32) J r h (lv1) hlv1 (lv4) hlv4
def F_X7_neighbour_50 (l2 : Int32) (l3 : Int32) (l4 : Int32) (J : zzJ) : Option (Int32 × zzJ) := (if l4 = (1 : Int32) then F_X7_neighbour_62 l2 l3 J else (if l4 = (2 : Int32) then F_X7_neighbour_62 l2 l3 J else F_X7_neighbour_66 l2 l3 J))
set_option maxRecDepth 100000 in
set_option maxHeartbeats 2000000 in
theorem G_X7_neighbour_50 {d : Nat} (hd : 1 ≤ d) : ∀ (l2 : Int32) (l3 : Int32) (l4 : Int32) (J : zzJ) (r : Int32 × zzJ), F_X7_neighbour_50 l2 l3 l4 J = some r → ∀ (lv1 : Value) (hlv1 : lv1.category = 1), zzEv d 169 50 [.ref 46, lv1, .int l2, .int l3, .int l4, zzU] [] (zK J) (some (.int r.1), zK r.2) := by
  intro l2 l3 l4 J r h lv1 hlv1
  unfold F_X7_neighbour_50 at h
  refine ev_iload zo_169_50 rfl rfl ?_
  refine ev_iconst (x := 1) zo_169_52 (by decide) rfl ?_
  by_cases c4 : l4 = (1 : Int32)
  · rw [if_pos c4] at h
    refine ev_cmp_t (t := 62) zo_169_53 rfl (zcm_eq c4) ?_
    exact G_X7_neighbour_62 hd l2 l3 J r h (lv1) hlv1 (.int l4) rfl
  rw [if_neg c4] at h
  refine ev_cmp_f (t := 62) zo_169_53 rfl (zcm_neq c4) rfl ?_
  refine ev_iload zo_169_56 rfl rfl ?_
  refine ev_iconst (x := 2) zo_169_58 (by decide) rfl ?_
  by_cases c5 : l4 = (2 : Int32)
  · rw [if_pos c5] at h
    refine ev_cmp_f (t := 66) zo_169_59 rfl (zcm_nne c5) rfl ?_
    exact G_X7_neighbour_62 hd l2 l3 J r h (lv1) hlv1 (.int l4) rfl
  rw [if_neg c5] at h
  refine ev_cmp_t (t := 66) zo_169_59 rfl (zcm_ne c5) ?_
  exact G_X7_neighbour_66 hd l2 l3 J r h (lv1) hlv1 (.int l4) rfl
def F_X7_neighbour (x1 : Int32) (x2 : Int32) (J : zzJ) : Option (Int32 × zzJ) := (if zzIx x1 8 then (if (J.2 53 x1.toNatClampNeg) = (-1 : Int32) then some ((-1 : Int32), J) else (Option.bind (F_X7_in ((zRem (J.2 53 x1.toNatClampNeg) (4 : Int32)) + x2).toInt64 (0 : Int64) (3 : Int64) J) fun q8 => (if q8.1 = (0 : Int32) then some ((-1 : Int32), q8.2) else (if (zRem (J.2 53 x1.toNatClampNeg) (4 : Int32)) = (1 : Int32) then F_X7_neighbour_50 x2 (J.2 53 x1.toNatClampNeg) ((zRem (J.2 53 x1.toNatClampNeg) (4 : Int32)) + x2) q8.2 else (if (zRem (J.2 53 x1.toNatClampNeg) (4 : Int32)) = (2 : Int32) then F_X7_neighbour_50 x2 (J.2 53 x1.toNatClampNeg) ((zRem (J.2 53 x1.toNatClampNeg) (4 : Int32)) + x2) q8.2 else F_X7_neighbour_66 x2 (J.2 53 x1.toNatClampNeg) q8.2))))) else none)
set_option maxRecDepth 100000 in
set_option maxHeartbeats 2000000 in
theorem G_X7_neighbour {d : Nat} (hd : 1 ≤ d) (x1 : Int32) (x2 : Int32) (J : zzJ) (r : Int32 × zzJ) (h : F_X7_neighbour x1 x2 J = some r) : zzEv d 169 0 [.ref 46, .int x1, .int x2, zzU, zzU, zzU] [] (zK J) (some (.int r.1), zK r.2) := by
  unfold F_X7_neighbour at h
  refine ev_aload_n zo_169_0 rfl rfl rfl rfl ?_
  refine ev_getR zo_169_1 zf_169_35 (by decide) rfl rfl rfl rfl ?_
  refine ev_iload_n zo_169_4 rfl rfl rfl ?_
  obtain ⟨c6, h⟩ := zz_chk h
  refine ev_iald zo_169_5 rfl c6 rfl ?_
  refine ev_istore_n zo_169_6 rfl (zz_set rfl (by decide) (Nat.le_of_ble_eq_true rfl)) rfl ?_
  show zzEv _ _ _ [.ref 46, .int x1, .int x2, .int (J.2 53 x1.toNatClampNeg), zzU, zzU] _ _ _
  refine ev_iload_n zo_169_7 rfl rfl rfl ?_
  refine ev_iconst (x := (-1)) zo_169_8 (by decide) rfl ?_
  by_cases c7 : (J.2 53 x1.toNatClampNeg) = (-1 : Int32)
  · rw [if_pos c7] at h
    refine ev_cmp_f (t := 14) zo_169_9 rfl (zcm_nne c7) rfl ?_
    refine ev_iconst (x := (-1)) zo_169_12 (by decide) rfl ?_
    obtain rfl := Option.some.inj h
    exact ev_retI zo_169_13 zr_169
  rw [if_neg c7] at h
  refine ev_cmp_t (t := 14) zo_169_9 rfl (zcm_ne c7) ?_
  refine ev_iload_n zo_169_14 rfl rfl rfl ?_
  refine ev_iconst (x := 4) zo_169_15 (by decide) rfl ?_
  refine ev_irem zo_169_16 (by decide) rfl ?_
  refine ev_iload_n zo_169_17 rfl rfl rfl ?_
  refine ev_iadd zo_169_18 rfl ?_
  refine ev_istore zo_169_19 (zz_set rfl (by decide) (Nat.le_of_ble_eq_true rfl)) rfl ?_
  show zzEv _ _ _ [.ref 46, .int x1, .int x2, .int (J.2 53 x1.toNatClampNeg), .int ((zRem (J.2 53 x1.toNatClampNeg) (4 : Int32)) + x2), zzU] _ _ _
  refine ev_iload zo_169_21 rfl rfl ?_
  refine ev_i2l zo_169_23 rfl ?_
  refine ev_lconst (x := 0) zo_169_24 (by decide) rfl ?_
  refine ev_ldc2 zo_169_25 zc_169_104 rfl ?_
  obtain ⟨q8, hq8, h⟩ := zz_bd h
  refine ev_cS (as := [.long (3 : Int64), .long (0 : Int64), .long ((zRem (J.2 53 x1.toNatClampNeg) (4 : Int32)) + x2).toInt64]) (lsn := [.long ((zRem (J.2 53 x1.toNatClampNeg) (4 : Int32)) + x2).toInt64, zzU, .long (0 : Int64), zzU, .long (3 : Int64), zzU]) (by omega) zo_169_28 zl_169_88 (by decide) (by rw [zm_136]; rfl) (by unfold zzIn; rw [zm_136]; rfl) (by rw [zm_136]; exact Nat.le_of_ble_eq_true rfl) (Nat.le_of_ble_eq_true rfl) (G_X7_in (by omega) ((zRem (J.2 53 x1.toNatClampNeg) (4 : Int32)) + x2).toInt64 (0 : Int64) (3 : Int64) J q8 hq8) rfl ?_
  show zzEv _ _ _ _ [.int q8.1] _ _
  by_cases c9 : q8.1 = (0 : Int32)
  · rw [if_pos c9] at h
    refine ev_if_f (t := 36) zo_169_31 rfl (zcm_nne c9) rfl ?_
    refine ev_iconst (x := (-1)) zo_169_34 (by decide) rfl ?_
    obtain rfl := Option.some.inj h
    exact ev_retI zo_169_35 zr_169
  rw [if_neg c9] at h
  refine ev_if_t (t := 36) zo_169_31 rfl (zcm_ne c9) ?_
  refine ev_iload_n zo_169_36 rfl rfl rfl ?_
  refine ev_iconst (x := 4) zo_169_37 (by decide) rfl ?_
  refine ev_irem zo_169_38 (by decide) rfl ?_
  refine ev_iconst (x := 1) zo_169_39 (by decide) rfl ?_
  by_cases c10 : (zRem (J.2 53 x1.toNatClampNeg) (4 : Int32)) = (1 : Int32)
  · rw [if_pos c10] at h
    refine ev_cmp_t (t := 50) zo_169_40 rfl (zcm_eq c10) ?_
    exact G_X7_neighbour_50 hd x2 (J.2 53 x1.toNatClampNeg) ((zRem (J.2 53 x1.toNatClampNeg) (4 : Int32)) + x2) q8.2 r h (.int x1) rfl
  rw [if_neg c10] at h
  refine ev_cmp_f (t := 50) zo_169_40 rfl (zcm_neq c10) rfl ?_
  refine ev_iload_n zo_169_43 rfl rfl rfl ?_
  refine ev_iconst (x := 4) zo_169_44 (by decide) rfl ?_
  refine ev_irem zo_169_45 (by decide) rfl ?_
  refine ev_iconst (x := 2) zo_169_46 (by decide) rfl ?_
  by_cases c11 : (zRem (J.2 53 x1.toNatClampNeg) (4 : Int32)) = (2 : Int32)
  · rw [if_pos c11] at h
    refine ev_cmp_f (t := 66) zo_169_47 rfl (zcm_nne c11) rfl ?_
    exact G_X7_neighbour_50 hd x2 (J.2 53 x1.toNatClampNeg) ((zRem (J.2 53 x1.toNatClampNeg) (4 : Int32)) + x2) q8.2 r h (.int x1) rfl
  rw [if_neg c11] at h
  refine ev_cmp_t (t := 66) zo_169_47 rfl (zcm_ne c11) ?_
  exact G_X7_neighbour_66 hd x2 (J.2 53 x1.toNatClampNeg) q8.2 r h (.int x1) rfl (.int ((zRem (J.2 53 x1.toNatClampNeg) (4 : Int32)) + x2)) rfl
/-! X7_besideOf -/
def F_X7_besideOf_15 (l1 : Int32) (t0 : Int32) (J : zzJ) : Option (Int32 × zzJ) := (Option.bind (F_X7_neighbour l1 (1 : Int32) J) fun q1 => (if q1.1 = (-1 : Int32) then some ((t0 + (0 : Int32)), q1.2) else some ((t0 + (1 : Int32)), q1.2)))
set_option maxRecDepth 100000 in
set_option maxHeartbeats 2000000 in
theorem G_X7_besideOf_15 {d : Nat} (hd : 2 ≤ d) : ∀ (l1 : Int32) (t0 : Int32) (J : zzJ) (r : Int32 × zzJ), F_X7_besideOf_15 l1 t0 J = some r → zzEv d 170 15 [.ref 46, .int l1] [.int t0] (zK J) (some (.int r.1), zK r.2) := by
  intro l1 t0 J r h
  unfold F_X7_besideOf_15 at h
  refine ev_aload_n zo_170_15 rfl rfl rfl rfl ?_
  refine ev_iload_n zo_170_16 rfl rfl rfl ?_
  refine ev_iconst (x := 1) zo_170_17 (by decide) rfl ?_
  obtain ⟨q1, hq1, h⟩ := zz_bd h
  refine ev_cV (as := [.int (1 : Int32), .int l1]) (lsn := [.ref 46, .int l1, .int (1 : Int32), zzU, zzU, zzU]) (by omega) zo_170_18 zl_170_265 (by rw [zm_169]; rfl) (by rw [zm_169]; exact rfl) (by rw [zm_169]; decide) (by unfold zzIn; rw [zm_169]; rfl) (by rw [zm_169]; exact Nat.le_of_ble_eq_true rfl) (Nat.le_of_ble_eq_true rfl) (G_X7_neighbour (by omega) l1 (1 : Int32) J q1 hq1) rfl ?_
  show zzEv _ _ _ _ [.int q1.1, .int t0] _ _
  refine ev_iconst (x := (-1)) zo_170_21 (by decide) rfl ?_
  by_cases c2 : q1.1 = (-1 : Int32)
  · rw [if_pos c2] at h
    refine ev_cmp_f (t := 29) zo_170_22 rfl (zcm_nne c2) rfl ?_
    refine ev_iconst (x := 0) zo_170_25 (by decide) rfl ?_
    refine ev_goto (t := 30) zo_170_26 rfl ?_
    refine ev_iadd zo_170_30 rfl ?_
    obtain rfl := Option.some.inj h
    exact ev_retI zo_170_31 zr_170
  rw [if_neg c2] at h
  refine ev_cmp_t (t := 29) zo_170_22 rfl (zcm_ne c2) ?_
  refine ev_iconst (x := 1) zo_170_29 (by decide) rfl ?_
  refine ev_iadd zo_170_30 rfl ?_
  obtain rfl := Option.some.inj h
  exact ev_retI zo_170_31 zr_170
def F_X7_besideOf (x1 : Int32) (J : zzJ) : Option (Int32 × zzJ) := (Option.bind (F_X7_neighbour x1 (-1 : Int32) J) fun q3 => (if q3.1 = (-1 : Int32) then F_X7_besideOf_15 x1 (0 : Int32) q3.2 else F_X7_besideOf_15 x1 (1 : Int32) q3.2))
set_option maxRecDepth 100000 in
set_option maxHeartbeats 2000000 in
theorem G_X7_besideOf {d : Nat} (hd : 2 ≤ d) (x1 : Int32) (J : zzJ) (r : Int32 × zzJ) (h : F_X7_besideOf x1 J = some r) : zzEv d 170 0 [.ref 46, .int x1] [] (zK J) (some (.int r.1), zK r.2) := by
  unfold F_X7_besideOf at h
  refine ev_aload_n zo_170_0 rfl rfl rfl rfl ?_
  refine ev_iload_n zo_170_1 rfl rfl rfl ?_
  refine ev_iconst (x := (-1)) zo_170_2 (by decide) rfl ?_
  obtain ⟨q3, hq3, h⟩ := zz_bd h
  refine ev_cV (as := [.int (-1 : Int32), .int x1]) (lsn := [.ref 46, .int x1, .int (-1 : Int32), zzU, zzU, zzU]) (by omega) zo_170_3 zl_170_265 (by rw [zm_169]; rfl) (by rw [zm_169]; exact rfl) (by rw [zm_169]; decide) (by unfold zzIn; rw [zm_169]; rfl) (by rw [zm_169]; exact Nat.le_of_ble_eq_true rfl) (Nat.le_of_ble_eq_true rfl) (G_X7_neighbour (by omega) x1 (-1 : Int32) J q3 hq3) rfl ?_
  show zzEv _ _ _ _ [.int q3.1] _ _
  refine ev_iconst (x := (-1)) zo_170_6 (by decide) rfl ?_
  by_cases c4 : q3.1 = (-1 : Int32)
  · rw [if_pos c4] at h
    refine ev_cmp_f (t := 14) zo_170_7 rfl (zcm_nne c4) rfl ?_
    refine ev_iconst (x := 0) zo_170_10 (by decide) rfl ?_
    refine ev_goto (t := 15) zo_170_11 rfl ?_
    exact G_X7_besideOf_15 hd x1 (0 : Int32) q3.2 r h
  rw [if_neg c4] at h
  refine ev_cmp_t (t := 14) zo_170_7 rfl (zcm_ne c4) ?_
  refine ev_iconst (x := 1) zo_170_14 (by decide) rfl ?_
  exact G_X7_besideOf_15 hd x1 (1 : Int32) q3.2 r h
/-! X7_isTeacher -/
def F_X7_isTeacher (x1 : Int32) (J : zzJ) : Option (Int32 × zzJ) := (if x1 = (-1 : Int32) then some ((0 : Int32), J) else (if zzIx x1 8 then (if (J.2 50 x1.toNatClampNeg) = (5 : Int32) then some ((1 : Int32), J) else some ((0 : Int32), J)) else none))
set_option maxRecDepth 100000 in
set_option maxHeartbeats 2000000 in
theorem G_X7_isTeacher {d : Nat} (hd : 0 ≤ d) (x1 : Int32) (J : zzJ) (r : Int32 × zzJ) (h : F_X7_isTeacher x1 J = some r) : zzEv d 171 0 [.ref 46, .int x1] [] (zK J) (some (.int r.1), zK r.2) := by
  unfold F_X7_isTeacher at h
  refine ev_iload_n zo_171_0 rfl rfl rfl ?_
  refine ev_iconst (x := (-1)) zo_171_1 (by decide) rfl ?_
  by_cases c1 : x1 = (-1 : Int32)
  · rw [if_pos c1] at h
    refine ev_cmp_t (t := 19) zo_171_2 rfl (zcm_eq c1) ?_
    refine ev_iconst (x := 0) zo_171_19 (by decide) rfl ?_
    obtain rfl := Option.some.inj h
    exact ev_retZ zo_171_20 zr_171 (Or.inl rfl)
  rw [if_neg c1] at h
  refine ev_cmp_f (t := 19) zo_171_2 rfl (zcm_neq c1) rfl ?_
  refine ev_aload_n zo_171_5 rfl rfl rfl rfl ?_
  refine ev_getR zo_171_6 zf_171_26 (by decide) rfl rfl rfl rfl ?_
  refine ev_iload_n zo_171_9 rfl rfl rfl ?_
  obtain ⟨c2, h⟩ := zz_chk h
  refine ev_iald zo_171_10 rfl c2 rfl ?_
  refine ev_iconst (x := 5) zo_171_11 (by decide) rfl ?_
  by_cases c3 : (J.2 50 x1.toNatClampNeg) = (5 : Int32)
  · rw [if_pos c3] at h
    refine ev_cmp_f (t := 19) zo_171_12 rfl (zcm_nne c3) rfl ?_
    refine ev_iconst (x := 1) zo_171_15 (by decide) rfl ?_
    refine ev_goto (t := 20) zo_171_16 rfl ?_
    obtain rfl := Option.some.inj h
    exact ev_retZ zo_171_20 zr_171 (Or.inr rfl)
  rw [if_neg c3] at h
  refine ev_cmp_t (t := 19) zo_171_12 rfl (zcm_ne c3) ?_
  refine ev_iconst (x := 0) zo_171_19 (by decide) rfl ?_
  obtain rfl := Option.some.inj h
  exact ev_retZ zo_171_20 zr_171 (Or.inl rfl)
/-! X7_isWatched -/
def F_X7_isWatched (x1 : Int32) (J : zzJ) : Option (Int32 × zzJ) := (Option.bind (F_X7_neighbour x1 (-1 : Int32) J) fun q1 => (Option.bind (F_X7_isTeacher q1.1 q1.2) fun q2 => (if q2.1 = (0 : Int32) then (Option.bind (F_X7_neighbour x1 (1 : Int32) q2.2) fun q4 => (Option.bind (F_X7_isTeacher q4.1 q4.2) fun q5 => (if q5.1 = (0 : Int32) then some ((0 : Int32), q5.2) else some ((1 : Int32), q5.2)))) else some ((1 : Int32), q2.2))))
set_option maxRecDepth 100000 in
set_option maxHeartbeats 2000000 in
theorem G_X7_isWatched {d : Nat} (hd : 2 ≤ d) (x1 : Int32) (J : zzJ) (r : Int32 × zzJ) (h : F_X7_isWatched x1 J = some r) : zzEv d 172 0 [.ref 46, .int x1] [] (zK J) (some (.int r.1), zK r.2) := by
  unfold F_X7_isWatched at h
  refine ev_aload_n zo_172_0 rfl rfl rfl rfl ?_
  refine ev_aload_n zo_172_1 rfl rfl rfl rfl ?_
  refine ev_iload_n zo_172_2 rfl rfl rfl ?_
  refine ev_iconst (x := (-1)) zo_172_3 (by decide) rfl ?_
  obtain ⟨q1, hq1, h⟩ := zz_bd h
  refine ev_cV (as := [.int (-1 : Int32), .int x1]) (lsn := [.ref 46, .int x1, .int (-1 : Int32), zzU, zzU, zzU]) (by omega) zo_172_4 zl_172_265 (by rw [zm_169]; rfl) (by rw [zm_169]; exact rfl) (by rw [zm_169]; decide) (by unfold zzIn; rw [zm_169]; rfl) (by rw [zm_169]; exact Nat.le_of_ble_eq_true rfl) (Nat.le_of_ble_eq_true rfl) (G_X7_neighbour (by omega) x1 (-1 : Int32) J q1 hq1) rfl ?_
  show zzEv _ _ _ _ [.int q1.1, .ref 46] _ _
  obtain ⟨q2, hq2, h⟩ := zz_bd h
  refine ev_cV (as := [.int q1.1]) (lsn := [.ref 46, .int q1.1]) (by omega) zo_172_7 zl_172_268 (by rw [zm_171]; rfl) (by rw [zm_171]; exact rfl) (by rw [zm_171]; decide) (by unfold zzIn; rw [zm_171]; rfl) (by rw [zm_171]; exact Nat.le_of_ble_eq_true rfl) (Nat.le_of_ble_eq_true rfl) (G_X7_isTeacher (by omega) q1.1 q1.2 q2 hq2) rfl ?_
  show zzEv _ _ _ _ [.int q2.1] _ _
  by_cases c3 : q2.1 = (0 : Int32)
  · rw [if_pos c3] at h
    refine ev_if_f (t := 26) zo_172_10 rfl (zcm_nne c3) rfl ?_
    refine ev_aload_n zo_172_13 rfl rfl rfl rfl ?_
    refine ev_aload_n zo_172_14 rfl rfl rfl rfl ?_
    refine ev_iload_n zo_172_15 rfl rfl rfl ?_
    refine ev_iconst (x := 1) zo_172_16 (by decide) rfl ?_
    obtain ⟨q4, hq4, h⟩ := zz_bd h
    refine ev_cV (as := [.int (1 : Int32), .int x1]) (lsn := [.ref 46, .int x1, .int (1 : Int32), zzU, zzU, zzU]) (by omega) zo_172_17 zl_172_265 (by rw [zm_169]; rfl) (by rw [zm_169]; exact rfl) (by rw [zm_169]; decide) (by unfold zzIn; rw [zm_169]; rfl) (by rw [zm_169]; exact Nat.le_of_ble_eq_true rfl) (Nat.le_of_ble_eq_true rfl) (G_X7_neighbour (by omega) x1 (1 : Int32) q2.2 q4 hq4) rfl ?_
    show zzEv _ _ _ _ [.int q4.1, .ref 46] _ _
    obtain ⟨q5, hq5, h⟩ := zz_bd h
    refine ev_cV (as := [.int q4.1]) (lsn := [.ref 46, .int q4.1]) (by omega) zo_172_20 zl_172_268 (by rw [zm_171]; rfl) (by rw [zm_171]; exact rfl) (by rw [zm_171]; decide) (by unfold zzIn; rw [zm_171]; rfl) (by rw [zm_171]; exact Nat.le_of_ble_eq_true rfl) (Nat.le_of_ble_eq_true rfl) (G_X7_isTeacher (by omega) q4.1 q4.2 q5 hq5) rfl ?_
    show zzEv _ _ _ _ [.int q5.1] _ _
    by_cases c6 : q5.1 = (0 : Int32)
    · rw [if_pos c6] at h
      refine ev_if_t (t := 30) zo_172_23 rfl (zcm_eq c6) ?_
      refine ev_iconst (x := 0) zo_172_30 (by decide) rfl ?_
      obtain rfl := Option.some.inj h
      exact ev_retZ zo_172_31 zr_172 (Or.inl rfl)
    rw [if_neg c6] at h
    refine ev_if_f (t := 30) zo_172_23 rfl (zcm_neq c6) rfl ?_
    refine ev_iconst (x := 1) zo_172_26 (by decide) rfl ?_
    refine ev_goto (t := 31) zo_172_27 rfl ?_
    obtain rfl := Option.some.inj h
    exact ev_retZ zo_172_31 zr_172 (Or.inr rfl)
  rw [if_neg c3] at h
  refine ev_if_t (t := 26) zo_172_10 rfl (zcm_ne c3) ?_
  refine ev_iconst (x := 1) zo_172_26 (by decide) rfl ?_
  refine ev_goto (t := 31) zo_172_27 rfl ?_
  obtain rfl := Option.some.inj h
  exact ev_retZ zo_172_31 zr_172 (Or.inr rfl)
/-! X7_byteAt -/
def F_X7_byteAt (x1 : Int32) (J : zzJ) : Option (Int32 × zzJ) := (if x1 < (J.2 46 22) then (if zzIx ((J.2 46 21) + x1) 960 then some ((J.2 47 ((J.2 46 21) + x1).toNatClampNeg), J) else none) else some ((-1 : Int32), J))
set_option maxRecDepth 100000 in
set_option maxHeartbeats 2000000 in
theorem G_X7_byteAt {d : Nat} (hd : 0 ≤ d) (x1 : Int32) (J : zzJ) (r : Int32 × zzJ) (h : F_X7_byteAt x1 J = some r) : zzEv d 151 0 [.ref 46, .int x1] [] (zK J) (some (.int r.1), zK r.2) := by
  unfold F_X7_byteAt at h
  refine ev_iload_n zo_151_0 rfl rfl rfl ?_
  refine ev_aload_n zo_151_1 rfl rfl rfl rfl ?_
  refine ev_getI zo_151_2 zf_151_151 (by decide) (Or.inl rfl) rfl rfl ?_
  by_cases c1 : x1 < (J.2 46 22)
  · rw [if_pos c1] at h
    refine ev_cmp_f (t := 22) zo_151_5 rfl (zcm_nge c1) rfl ?_
    refine ev_aload_n zo_151_8 rfl rfl rfl rfl ?_
    refine ev_getR zo_151_9 zf_151_13 (by decide) rfl rfl rfl rfl ?_
    refine ev_aload_n zo_151_12 rfl rfl rfl rfl ?_
    refine ev_getI zo_151_13 zf_151_154 (by decide) (Or.inl rfl) rfl rfl ?_
    refine ev_iload_n zo_151_16 rfl rfl rfl ?_
    refine ev_iadd zo_151_17 rfl ?_
    obtain ⟨c2, h⟩ := zz_chk h
    refine ev_iald zo_151_18 rfl c2 rfl ?_
    refine ev_goto (t := 23) zo_151_19 rfl ?_
    obtain rfl := Option.some.inj h
    exact ev_retI zo_151_23 zr_151
  rw [if_neg c1] at h
  refine ev_cmp_t (t := 22) zo_151_5 rfl (zcm_ge c1) ?_
  refine ev_iconst (x := (-1)) zo_151_22 (by decide) rfl ?_
  obtain rfl := Option.some.inj h
  exact ev_retI zo_151_23 zr_151
/-! X7_next -/
def F_X7_next_300 (l1 : Int32) (J : zzJ) : Option (zzJ) := some (wI (wL (wI J 46 24 (3 : Int32)) 46 26 l1.toInt64) 46 23 (((wL (wI J 46 24 (3 : Int32)) 46 26 l1.toInt64).2 46 23) + (1 : Int32)))
set_option maxRecDepth 100000 in
set_option maxHeartbeats 2000000 in
theorem G_X7_next_300 {d : Nat} (hd : 1 ≤ d) : ∀ (l1 : Int32) (J : zzJ) (r : zzJ), F_X7_next_300 l1 J = some r → zzEv d 152 300 [.ref 46, .int l1, zzU] [] (zK J) (none, zK r) := by
  intro l1 J r h
  unfold F_X7_next_300 at h
  refine ev_aload_n zo_152_300 rfl rfl rfl rfl ?_
  refine ev_iconst (x := 3) zo_152_301 (by decide) rfl ?_
  refine ev_putI zo_152_302 zf_152_166 (by decide) rfl rfl rfl rfl ?_
  refine ev_aload_n zo_152_305 rfl rfl rfl rfl ?_
  refine ev_iload_n zo_152_306 rfl rfl rfl ?_
  refine ev_i2l zo_152_307 rfl ?_
  refine ev_putL zo_152_308 zf_152_177 (by decide) rfl rfl rfl rfl ?_
  refine ev_aload_n zo_152_311 rfl rfl rfl rfl ?_
  refine ev_dup zo_152_312 rfl rfl ?_
  refine ev_getI zo_152_313 zf_152_157 (by decide) (Or.inl rfl) rfl rfl ?_
  refine ev_iconst (x := 1) zo_152_316 (by decide) rfl ?_
  refine ev_iadd zo_152_317 rfl ?_
  refine ev_putI zo_152_318 zf_152_157 (by decide) rfl rfl rfl rfl ?_
  obtain rfl := Option.some.inj h
  exact ev_retV zo_152_321 zr_152
def F_X7_next_216 (kl_160 : Int32 → zzJ → Option (zzJ)) (l2 : Int32) (t0 : Int64) (J : zzJ) : Option (zzJ) := kl_160 (l2 + 1) (wI (wL J 46 26 t0) 46 23 (((wL J 46 26 t0).2 46 23) + (1 : Int32)))
set_option maxRecDepth 100000 in
set_option maxHeartbeats 2000000 in
theorem G_X7_next_216 {d : Nat} (kl_160 : Int32 → zzJ → Option (zzJ)) (hkl_160 : ∀ (l2 : Int32) (J : zzJ) (r : zzJ), kl_160 l2 J = some r → ∀ (lv1 : Value) (hlv1 : lv1.category = 1), zzEv d 152 160 [.ref 46, lv1, .int l2] [] (zK J) (none, zK r)) (hd : 1 ≤ d) : ∀ (l2 : Int32) (t0 : Int64) (J : zzJ) (r : zzJ), F_X7_next_216 kl_160 l2 t0 J = some r → ∀ (lv1 : Value) (hlv1 : lv1.category = 1), zzEv d 152 216 [.ref 46, lv1, .int l2] [.long t0, .ref 46] (zK J) (none, zK r) := by
  intro l2 t0 J r h lv1 hlv1
  unfold F_X7_next_216 at h
  refine ev_putL zo_152_216 zf_152_177 (by decide) rfl rfl rfl rfl ?_
  refine ev_iinc (v := 1) zo_152_219 rfl (by decide) (zz_set (zz_lg (j := 1) rfl hlv1) (by decide) (Nat.le_of_ble_eq_true rfl)) rfl ?_
  show zzEv _ _ _ [.ref 46, lv1, .int (l2 + 1)] _ _ _
  refine ev_aload_n zo_152_222 rfl rfl rfl rfl ?_
  refine ev_dup zo_152_223 rfl rfl ?_
  refine ev_getI zo_152_224 zf_152_157 (by decide) (Or.inl rfl) rfl rfl ?_
  refine ev_iconst (x := 1) zo_152_227 (by decide) rfl ?_
  refine ev_iadd zo_152_228 rfl ?_
  refine ev_putI zo_152_229 zf_152_157 (by decide) rfl rfl rfl rfl ?_
  refine ev_goto (t := 160) zo_152_232 rfl ?_
  exact hkl_160 (l2 + 1) (wI (wL J 46 26 t0) 46 23 (((wL J 46 26 t0).2 46 23) + (1 : Int32))) r h (lv1) hlv1
def F_X7_next_160 : Nat → Int32 → zzJ → Option (zzJ)
  | 0, _, _ => none
  | n + 1, l2, J => (Option.bind (F_X7_byteAt (J.2 46 23) J) fun q1 => (Option.bind (F_X7_in q1.1.toInt64 (48 : Int64) (57 : Int64) q1.2) fun q2 => (if q2.1 = (0 : Int32) then (if (4 : Int32) < l2 then some (wI q2.2 46 24 (4 : Int32)) else some (wI q2.2 46 24 (2 : Int32))) else (if l2 < (4 : Int32) then (Option.bind (F_X7_byteAt (q2.2.2 46 23) q2.2) fun q6 => F_X7_next_216 (F_X7_next_160 n) l2 ((((10 : Int64) * (q2.2.1 46 26)) + q6.1.toInt64) - (48 : Int64)) q6.2) else F_X7_next_216 (F_X7_next_160 n) l2 (q2.2.1 46 26) q2.2))))
set_option maxRecDepth 100000 in
set_option maxHeartbeats 2000000 in
theorem G_X7_next_160 {d : Nat} (hd : 1 ≤ d) : ∀ (n : Nat) (l2 : Int32) (J : zzJ) (r : zzJ), F_X7_next_160 n l2 J = some r → ∀ (lv1 : Value) (hlv1 : lv1.category = 1), zzEv d 152 160 [.ref 46, lv1, .int l2] [] (zK J) (none, zK r) := by
  intro n
  induction n with
  | zero => intro l2 J r h; simp [F_X7_next_160] at h
  | succ n ih =>
    intro l2 J r h lv1 hlv1
    rw [F_X7_next_160] at h
    refine ev_aload_n zo_152_160 rfl rfl rfl rfl ?_
    refine ev_aload_n zo_152_161 rfl rfl rfl rfl ?_
    refine ev_getI zo_152_162 zf_152_157 (by decide) (Or.inl rfl) rfl rfl ?_
    obtain ⟨q1, hq1, h⟩ := zz_bd h
    refine ev_cV (as := [.int (J.2 46 23)]) (lsn := [.ref 46, .int (J.2 46 23)]) (by omega) zo_152_165 zl_152_160 (by rw [zm_151]; rfl) (by rw [zm_151]; exact rfl) (by rw [zm_151]; decide) (by unfold zzIn; rw [zm_151]; rfl) (by rw [zm_151]; exact Nat.le_of_ble_eq_true rfl) (Nat.le_of_ble_eq_true rfl) (G_X7_byteAt (by omega) (J.2 46 23) J q1 hq1) rfl ?_
    show zzEv _ _ _ _ [.int q1.1] _ _
    refine ev_i2l zo_152_168 rfl ?_
    refine ev_ldc2 zo_152_169 zc_152_173 rfl ?_
    refine ev_ldc2 zo_152_172 zc_152_175 rfl ?_
    obtain ⟨q2, hq2, h⟩ := zz_bd h
    refine ev_cS (as := [.long (57 : Int64), .long (48 : Int64), .long q1.1.toInt64]) (lsn := [.long q1.1.toInt64, zzU, .long (48 : Int64), zzU, .long (57 : Int64), zzU]) (by omega) zo_152_175 zl_152_88 (by decide) (by rw [zm_136]; rfl) (by unfold zzIn; rw [zm_136]; rfl) (by rw [zm_136]; exact Nat.le_of_ble_eq_true rfl) (Nat.le_of_ble_eq_true rfl) (G_X7_in (by omega) q1.1.toInt64 (48 : Int64) (57 : Int64) q1.2 q2 hq2) rfl ?_
    show zzEv _ _ _ _ [.int q2.1] _ _
    by_cases c3 : q2.1 = (0 : Int32)
    · rw [if_pos c3] at h
      refine ev_if_t (t := 235) zo_152_178 rfl (zcm_eq c3) ?_
      refine ev_aload_n zo_152_235 rfl rfl rfl rfl ?_
      refine ev_iload_n zo_152_236 rfl rfl rfl ?_
      refine ev_iconst (x := 4) zo_152_237 (by decide) rfl ?_
      by_cases c4 : (4 : Int32) < l2
      · rw [if_pos c4] at h
        refine ev_cmp_f (t := 245) zo_152_238 rfl (zcm_nle c4) rfl ?_
        refine ev_iconst (x := 4) zo_152_241 (by decide) rfl ?_
        refine ev_goto (t := 246) zo_152_242 rfl ?_
        refine ev_putI zo_152_246 zf_152_166 (by decide) rfl rfl rfl rfl ?_
        refine ev_goto (t := 321) zo_152_249 rfl ?_
        obtain rfl := Option.some.inj h
        exact ev_retV zo_152_321 zr_152
      rw [if_neg c4] at h
      refine ev_cmp_t (t := 245) zo_152_238 rfl (zcm_le c4) ?_
      refine ev_iconst (x := 2) zo_152_245 (by decide) rfl ?_
      refine ev_putI zo_152_246 zf_152_166 (by decide) rfl rfl rfl rfl ?_
      refine ev_goto (t := 321) zo_152_249 rfl ?_
      obtain rfl := Option.some.inj h
      exact ev_retV zo_152_321 zr_152
    rw [if_neg c3] at h
    refine ev_if_f (t := 235) zo_152_178 rfl (zcm_neq c3) rfl ?_
    refine ev_aload_n zo_152_181 rfl rfl rfl rfl ?_
    refine ev_iload_n zo_152_182 rfl rfl rfl ?_
    refine ev_iconst (x := 4) zo_152_183 (by decide) rfl ?_
    by_cases c5 : l2 < (4 : Int32)
    · rw [if_pos c5] at h
      refine ev_cmp_f (t := 212) zo_152_184 rfl (zcm_nge c5) rfl ?_
      refine ev_ldc2 zo_152_187 zc_152_181 rfl ?_
      refine ev_aload_n zo_152_190 rfl rfl rfl rfl ?_
      refine ev_getL zo_152_191 zf_152_177 (by decide) rfl rfl rfl ?_
      refine ev_lmul zo_152_194 rfl ?_
      refine ev_aload_n zo_152_195 rfl rfl rfl rfl ?_
      refine ev_aload_n zo_152_196 rfl rfl rfl rfl ?_
      refine ev_getI zo_152_197 zf_152_157 (by decide) (Or.inl rfl) rfl rfl ?_
      obtain ⟨q6, hq6, h⟩ := zz_bd h
      refine ev_cV (as := [.int (q2.2.2 46 23)]) (lsn := [.ref 46, .int (q2.2.2 46 23)]) (by omega) zo_152_200 zl_152_160 (by rw [zm_151]; rfl) (by rw [zm_151]; exact rfl) (by rw [zm_151]; decide) (by unfold zzIn; rw [zm_151]; rfl) (by rw [zm_151]; exact Nat.le_of_ble_eq_true rfl) (Nat.le_of_ble_eq_true rfl) (G_X7_byteAt (by omega) (q2.2.2 46 23) q2.2 q6 hq6) rfl ?_
      show zzEv _ _ _ _ [.int q6.1, .long ((10 : Int64) * (q2.2.1 46 26)), .ref 46] _ _
      refine ev_i2l zo_152_203 rfl ?_
      refine ev_ladd zo_152_204 rfl ?_
      refine ev_ldc2 zo_152_205 zc_152_173 rfl ?_
      refine ev_lsub zo_152_208 rfl ?_
      refine ev_goto (t := 216) zo_152_209 rfl ?_
      exact G_X7_next_216 (F_X7_next_160 n) ih hd l2 ((((10 : Int64) * (q2.2.1 46 26)) + q6.1.toInt64) - (48 : Int64)) q6.2 r h (lv1) hlv1
    rw [if_neg c5] at h
    refine ev_cmp_t (t := 212) zo_152_184 rfl (zcm_ge c5) ?_
    refine ev_aload_n zo_152_212 rfl rfl rfl rfl ?_
    refine ev_getL zo_152_213 zf_152_177 (by decide) rfl rfl rfl ?_
    exact G_X7_next_216 (F_X7_next_160 n) ih hd l2 (q2.2.1 46 26) q2.2 r h (lv1) hlv1
def F_X7_next_100 : Nat → zzJ → Option (zzJ)
  | 0, _ => none
  | n + 1, J => (Option.bind (F_X7_byteAt (J.2 46 23) J) fun q7 => (Option.bind (F_X7_in q7.1.toInt64 (97 : Int64) (122 : Int64) q7.2) fun q8 => (if q8.1 = (0 : Int32) then some q8.2 else F_X7_next_100 n (wI q8.2 46 23 ((q8.2.2 46 23) + (1 : Int32))))))
set_option maxRecDepth 100000 in
set_option maxHeartbeats 2000000 in
theorem G_X7_next_100 {d : Nat} (hd : 1 ≤ d) : ∀ (n : Nat) (J : zzJ) (r : zzJ), F_X7_next_100 n J = some r → ∀ (lv1 : Value) (hlv1 : lv1.category = 1), zzEv d 152 100 [.ref 46, lv1, zzU] [] (zK J) (none, zK r) := by
  intro n
  induction n with
  | zero => intro J r h; simp [F_X7_next_100] at h
  | succ n ih =>
    intro J r h lv1 hlv1
    rw [F_X7_next_100] at h
    refine ev_aload_n zo_152_100 rfl rfl rfl rfl ?_
    refine ev_aload_n zo_152_101 rfl rfl rfl rfl ?_
    refine ev_getI zo_152_102 zf_152_157 (by decide) (Or.inl rfl) rfl rfl ?_
    obtain ⟨q7, hq7, h⟩ := zz_bd h
    refine ev_cV (as := [.int (J.2 46 23)]) (lsn := [.ref 46, .int (J.2 46 23)]) (by omega) zo_152_105 zl_152_160 (by rw [zm_151]; rfl) (by rw [zm_151]; exact rfl) (by rw [zm_151]; decide) (by unfold zzIn; rw [zm_151]; rfl) (by rw [zm_151]; exact Nat.le_of_ble_eq_true rfl) (Nat.le_of_ble_eq_true rfl) (G_X7_byteAt (by omega) (J.2 46 23) J q7 hq7) rfl ?_
    show zzEv _ _ _ _ [.int q7.1] _ _
    refine ev_i2l zo_152_108 rfl ?_
    refine ev_ldc2 zo_152_109 zc_152_169 rfl ?_
    refine ev_ldc2 zo_152_112 zc_152_171 rfl ?_
    obtain ⟨q8, hq8, h⟩ := zz_bd h
    refine ev_cS (as := [.long (122 : Int64), .long (97 : Int64), .long q7.1.toInt64]) (lsn := [.long q7.1.toInt64, zzU, .long (97 : Int64), zzU, .long (122 : Int64), zzU]) (by omega) zo_152_115 zl_152_88 (by decide) (by rw [zm_136]; rfl) (by unfold zzIn; rw [zm_136]; rfl) (by rw [zm_136]; exact Nat.le_of_ble_eq_true rfl) (Nat.le_of_ble_eq_true rfl) (G_X7_in (by omega) q7.1.toInt64 (97 : Int64) (122 : Int64) q7.2 q8 hq8) rfl ?_
    show zzEv _ _ _ _ [.int q8.1] _ _
    by_cases c9 : q8.1 = (0 : Int32)
    · rw [if_pos c9] at h
      refine ev_if_t (t := 321) zo_152_118 rfl (zcm_eq c9) ?_
      obtain rfl := Option.some.inj h
      exact ev_retV zo_152_321 zr_152
    rw [if_neg c9] at h
    refine ev_if_f (t := 321) zo_152_118 rfl (zcm_neq c9) rfl ?_
    refine ev_aload_n zo_152_121 rfl rfl rfl rfl ?_
    refine ev_dup zo_152_122 rfl rfl ?_
    refine ev_getI zo_152_123 zf_152_157 (by decide) (Or.inl rfl) rfl rfl ?_
    refine ev_iconst (x := 1) zo_152_126 (by decide) rfl ?_
    refine ev_iadd zo_152_127 rfl ?_
    refine ev_putI zo_152_128 zf_152_157 (by decide) rfl rfl rfl rfl ?_
    refine ev_goto (t := 100) zo_152_131 rfl ?_
    exact ih (wI q8.2 46 23 ((q8.2.2 46 23) + (1 : Int32))) r h (lv1) hlv1
def F_X7_next_26 (kl_0 : zzJ → Option (zzJ)) (J : zzJ) : Option (zzJ) := kl_0 (wI J 46 23 ((J.2 46 23) + (1 : Int32)))
set_option maxRecDepth 100000 in
set_option maxHeartbeats 2000000 in
theorem G_X7_next_26 {d : Nat} (kl_0 : zzJ → Option (zzJ)) (hkl_0 : ∀ (J : zzJ) (r : zzJ), kl_0 J = some r → zzEv d 152 0 [.ref 46, zzU, zzU] [] (zK J) (none, zK r)) (hd : 1 ≤ d) : ∀ (J : zzJ) (r : zzJ), F_X7_next_26 kl_0 J = some r → zzEv d 152 26 [.ref 46, zzU, zzU] [] (zK J) (none, zK r) := by
  intro J r h
  unfold F_X7_next_26 at h
  refine ev_aload_n zo_152_26 rfl rfl rfl rfl ?_
  refine ev_dup zo_152_27 rfl rfl ?_
  refine ev_getI zo_152_28 zf_152_157 (by decide) (Or.inl rfl) rfl rfl ?_
  refine ev_iconst (x := 1) zo_152_31 (by decide) rfl ?_
  refine ev_iadd zo_152_32 rfl ?_
  refine ev_putI zo_152_33 zf_152_157 (by decide) rfl rfl rfl rfl ?_
  refine ev_goto (t := 0) zo_152_36 rfl ?_
  exact hkl_0 (wI J 46 23 ((J.2 46 23) + (1 : Int32))) r h
def F_X7_next_0 : Nat → zzJ → Option (zzJ)
  | 0, _ => none
  | n + 1, J => (Option.bind (F_X7_byteAt (J.2 46 23) J) fun q10 => (if q10.1 = (32 : Int32) then F_X7_next_26 (F_X7_next_0 n) q10.2 else (Option.bind (F_X7_byteAt (q10.2.2 46 23) q10.2) fun q12 => (if q12.1 = (10 : Int32) then F_X7_next_26 (F_X7_next_0 n) q12.2 else (Option.bind (F_X7_byteAt ((wI q12.2 46 25 (q12.2.2 46 23)).2 46 23) (wI q12.2 46 25 (q12.2.2 46 23))) fun q14 => (if q14.1 < (0 : Int32) then some (wI (wI (wI q14.2 46 24 (4 : Int32)) 46 24 (0 : Int32)) 46 25 ((wI (wI q14.2 46 24 (4 : Int32)) 46 24 (0 : Int32)).2 46 22)) else (Option.bind (F_X7_in q14.1.toInt64 (97 : Int64) (122 : Int64) (wI q14.2 46 24 (4 : Int32))) fun q16 => (if q16.1 = (0 : Int32) then (Option.bind (F_X7_in q14.1.toInt64 (48 : Int64) (57 : Int64) q16.2) fun q18 => (if q18.1 = (0 : Int32) then (if q14.1 = (40 : Int32) then F_X7_next_300 q14.1 q18.2 else (if q14.1 = (41 : Int32) then F_X7_next_300 q14.1 q18.2 else (if q14.1 = (59 : Int32) then F_X7_next_300 q14.1 q18.2 else (if q14.1 = (43 : Int32) then F_X7_next_300 q14.1 q18.2 else (if q14.1 = (45 : Int32) then F_X7_next_300 q14.1 q18.2 else (if q14.1 = (42 : Int32) then F_X7_next_300 q14.1 q18.2 else (if q14.1 = (60 : Int32) then F_X7_next_300 q14.1 q18.2 else (if q14.1 = (61 : Int32) then F_X7_next_300 q14.1 q18.2 else some q18.2)))))))) else F_X7_next_160 4096 (0 : Int32) (wL (wI q18.2 46 24 (2 : Int32)) 46 26 (0 : Int64)))) else F_X7_next_100 4096 (wI q16.2 46 24 (1 : Int32))))))))))
set_option maxRecDepth 100000 in
set_option maxHeartbeats 2000000 in
theorem G_X7_next_0 {d : Nat} (hd : 1 ≤ d) : ∀ (n : Nat) (J : zzJ) (r : zzJ), F_X7_next_0 n J = some r → zzEv d 152 0 [.ref 46, zzU, zzU] [] (zK J) (none, zK r) := by
  intro n
  induction n with
  | zero => intro J r h; simp [F_X7_next_0] at h
  | succ n ih =>
    intro J r h
    rw [F_X7_next_0] at h
    refine ev_aload_n zo_152_0 rfl rfl rfl rfl ?_
    refine ev_aload_n zo_152_1 rfl rfl rfl rfl ?_
    refine ev_getI zo_152_2 zf_152_157 (by decide) (Or.inl rfl) rfl rfl ?_
    obtain ⟨q10, hq10, h⟩ := zz_bd h
    refine ev_cV (as := [.int (J.2 46 23)]) (lsn := [.ref 46, .int (J.2 46 23)]) (by omega) zo_152_5 zl_152_160 (by rw [zm_151]; rfl) (by rw [zm_151]; exact rfl) (by rw [zm_151]; decide) (by unfold zzIn; rw [zm_151]; rfl) (by rw [zm_151]; exact Nat.le_of_ble_eq_true rfl) (Nat.le_of_ble_eq_true rfl) (G_X7_byteAt (by omega) (J.2 46 23) J q10 hq10) rfl ?_
    show zzEv _ _ _ _ [.int q10.1] _ _
    refine ev_bipush (x := 32) zo_152_8 (by decide) rfl ?_
    by_cases c11 : q10.1 = (32 : Int32)
    · rw [if_pos c11] at h
      refine ev_cmp_t (t := 26) zo_152_10 rfl (zcm_eq c11) ?_
      exact G_X7_next_26 (F_X7_next_0 n) ih hd q10.2 r h
    rw [if_neg c11] at h
    refine ev_cmp_f (t := 26) zo_152_10 rfl (zcm_neq c11) rfl ?_
    refine ev_aload_n zo_152_13 rfl rfl rfl rfl ?_
    refine ev_aload_n zo_152_14 rfl rfl rfl rfl ?_
    refine ev_getI zo_152_15 zf_152_157 (by decide) (Or.inl rfl) rfl rfl ?_
    obtain ⟨q12, hq12, h⟩ := zz_bd h
    refine ev_cV (as := [.int (q10.2.2 46 23)]) (lsn := [.ref 46, .int (q10.2.2 46 23)]) (by omega) zo_152_18 zl_152_160 (by rw [zm_151]; rfl) (by rw [zm_151]; exact rfl) (by rw [zm_151]; decide) (by unfold zzIn; rw [zm_151]; rfl) (by rw [zm_151]; exact Nat.le_of_ble_eq_true rfl) (Nat.le_of_ble_eq_true rfl) (G_X7_byteAt (by omega) (q10.2.2 46 23) q10.2 q12 hq12) rfl ?_
    show zzEv _ _ _ _ [.int q12.1] _ _
    refine ev_bipush (x := 10) zo_152_21 (by decide) rfl ?_
    by_cases c13 : q12.1 = (10 : Int32)
    · rw [if_pos c13] at h
      refine ev_cmp_f (t := 39) zo_152_23 rfl (zcm_nne c13) rfl ?_
      exact G_X7_next_26 (F_X7_next_0 n) ih hd q12.2 r h
    rw [if_neg c13] at h
    refine ev_cmp_t (t := 39) zo_152_23 rfl (zcm_ne c13) ?_
    refine ev_aload_n zo_152_39 rfl rfl rfl rfl ?_
    refine ev_aload_n zo_152_40 rfl rfl rfl rfl ?_
    refine ev_getI zo_152_41 zf_152_157 (by decide) (Or.inl rfl) rfl rfl ?_
    refine ev_putI zo_152_44 zf_152_163 (by decide) rfl rfl rfl rfl ?_
    refine ev_aload_n zo_152_47 rfl rfl rfl rfl ?_
    refine ev_aload_n zo_152_48 rfl rfl rfl rfl ?_
    refine ev_getI zo_152_49 zf_152_157 (by decide) (Or.inl rfl) rfl rfl ?_
    obtain ⟨q14, hq14, h⟩ := zz_bd h
    refine ev_cV (as := [.int ((wI q12.2 46 25 (q12.2.2 46 23)).2 46 23)]) (lsn := [.ref 46, .int ((wI q12.2 46 25 (q12.2.2 46 23)).2 46 23)]) (by omega) zo_152_52 zl_152_160 (by rw [zm_151]; rfl) (by rw [zm_151]; exact rfl) (by rw [zm_151]; decide) (by unfold zzIn; rw [zm_151]; rfl) (by rw [zm_151]; exact Nat.le_of_ble_eq_true rfl) (Nat.le_of_ble_eq_true rfl) (G_X7_byteAt (by omega) ((wI q12.2 46 25 (q12.2.2 46 23)).2 46 23) (wI q12.2 46 25 (q12.2.2 46 23)) q14 hq14) rfl ?_
    show zzEv _ _ _ _ [.int q14.1] _ _
    refine ev_istore_n zo_152_55 rfl (zz_set rfl (by decide) (Nat.le_of_ble_eq_true rfl)) rfl ?_
    show zzEv _ _ _ [.ref 46, .int q14.1, zzU] _ _ _
    refine ev_aload_n zo_152_56 rfl rfl rfl rfl ?_
    refine ev_iconst (x := 4) zo_152_57 (by decide) rfl ?_
    refine ev_putI zo_152_58 zf_152_166 (by decide) rfl rfl rfl rfl ?_
    refine ev_iload_n zo_152_61 rfl rfl rfl ?_
    by_cases c15 : q14.1 < (0 : Int32)
    · rw [if_pos c15] at h
      refine ev_if_f (t := 81) zo_152_62 rfl (zcm_nge c15) rfl ?_
      refine ev_aload_n zo_152_65 rfl rfl rfl rfl ?_
      refine ev_iconst (x := 0) zo_152_66 (by decide) rfl ?_
      refine ev_putI zo_152_67 zf_152_166 (by decide) rfl rfl rfl rfl ?_
      refine ev_aload_n zo_152_70 rfl rfl rfl rfl ?_
      refine ev_aload_n zo_152_71 rfl rfl rfl rfl ?_
      refine ev_getI zo_152_72 zf_152_151 (by decide) (Or.inl rfl) rfl rfl ?_
      refine ev_putI zo_152_75 zf_152_163 (by decide) rfl rfl rfl rfl ?_
      refine ev_goto (t := 321) zo_152_78 rfl ?_
      obtain rfl := Option.some.inj h
      exact ev_retV zo_152_321 zr_152
    rw [if_neg c15] at h
    refine ev_if_t (t := 81) zo_152_62 rfl (zcm_ge c15) ?_
    refine ev_iload_n zo_152_81 rfl rfl rfl ?_
    refine ev_i2l zo_152_82 rfl ?_
    refine ev_ldc2 zo_152_83 zc_152_169 rfl ?_
    refine ev_ldc2 zo_152_86 zc_152_171 rfl ?_
    obtain ⟨q16, hq16, h⟩ := zz_bd h
    refine ev_cS (as := [.long (122 : Int64), .long (97 : Int64), .long q14.1.toInt64]) (lsn := [.long q14.1.toInt64, zzU, .long (97 : Int64), zzU, .long (122 : Int64), zzU]) (by omega) zo_152_89 zl_152_88 (by decide) (by rw [zm_136]; rfl) (by unfold zzIn; rw [zm_136]; rfl) (by rw [zm_136]; exact Nat.le_of_ble_eq_true rfl) (Nat.le_of_ble_eq_true rfl) (G_X7_in (by omega) q14.1.toInt64 (97 : Int64) (122 : Int64) (wI q14.2 46 24 (4 : Int32)) q16 hq16) rfl ?_
    show zzEv _ _ _ _ [.int q16.1] _ _
    by_cases c17 : q16.1 = (0 : Int32)
    · rw [if_pos c17] at h
      refine ev_if_t (t := 134) zo_152_92 rfl (zcm_eq c17) ?_
      refine ev_iload_n zo_152_134 rfl rfl rfl ?_
      refine ev_i2l zo_152_135 rfl ?_
      refine ev_ldc2 zo_152_136 zc_152_173 rfl ?_
      refine ev_ldc2 zo_152_139 zc_152_175 rfl ?_
      obtain ⟨q18, hq18, h⟩ := zz_bd h
      refine ev_cS (as := [.long (57 : Int64), .long (48 : Int64), .long q14.1.toInt64]) (lsn := [.long q14.1.toInt64, zzU, .long (48 : Int64), zzU, .long (57 : Int64), zzU]) (by omega) zo_152_142 zl_152_88 (by decide) (by rw [zm_136]; rfl) (by unfold zzIn; rw [zm_136]; rfl) (by rw [zm_136]; exact Nat.le_of_ble_eq_true rfl) (Nat.le_of_ble_eq_true rfl) (G_X7_in (by omega) q14.1.toInt64 (48 : Int64) (57 : Int64) q16.2 q18 hq18) rfl ?_
      show zzEv _ _ _ _ [.int q18.1] _ _
      by_cases c19 : q18.1 = (0 : Int32)
      · rw [if_pos c19] at h
        refine ev_if_t (t := 252) zo_152_145 rfl (zcm_eq c19) ?_
        refine ev_iload_n zo_152_252 rfl rfl rfl ?_
        refine ev_bipush (x := 40) zo_152_253 (by decide) rfl ?_
        by_cases c20 : q14.1 = (40 : Int32)
        · rw [if_pos c20] at h
          refine ev_cmp_t (t := 300) zo_152_255 rfl (zcm_eq c20) ?_
          exact G_X7_next_300 hd q14.1 q18.2 r h
        rw [if_neg c20] at h
        refine ev_cmp_f (t := 300) zo_152_255 rfl (zcm_neq c20) rfl ?_
        refine ev_iload_n zo_152_258 rfl rfl rfl ?_
        refine ev_bipush (x := 41) zo_152_259 (by decide) rfl ?_
        by_cases c21 : q14.1 = (41 : Int32)
        · rw [if_pos c21] at h
          refine ev_cmp_t (t := 300) zo_152_261 rfl (zcm_eq c21) ?_
          exact G_X7_next_300 hd q14.1 q18.2 r h
        rw [if_neg c21] at h
        refine ev_cmp_f (t := 300) zo_152_261 rfl (zcm_neq c21) rfl ?_
        refine ev_iload_n zo_152_264 rfl rfl rfl ?_
        refine ev_bipush (x := 59) zo_152_265 (by decide) rfl ?_
        by_cases c22 : q14.1 = (59 : Int32)
        · rw [if_pos c22] at h
          refine ev_cmp_t (t := 300) zo_152_267 rfl (zcm_eq c22) ?_
          exact G_X7_next_300 hd q14.1 q18.2 r h
        rw [if_neg c22] at h
        refine ev_cmp_f (t := 300) zo_152_267 rfl (zcm_neq c22) rfl ?_
        refine ev_iload_n zo_152_270 rfl rfl rfl ?_
        refine ev_bipush (x := 43) zo_152_271 (by decide) rfl ?_
        by_cases c23 : q14.1 = (43 : Int32)
        · rw [if_pos c23] at h
          refine ev_cmp_t (t := 300) zo_152_273 rfl (zcm_eq c23) ?_
          exact G_X7_next_300 hd q14.1 q18.2 r h
        rw [if_neg c23] at h
        refine ev_cmp_f (t := 300) zo_152_273 rfl (zcm_neq c23) rfl ?_
        refine ev_iload_n zo_152_276 rfl rfl rfl ?_
        refine ev_bipush (x := 45) zo_152_277 (by decide) rfl ?_
        by_cases c24 : q14.1 = (45 : Int32)
        · rw [if_pos c24] at h
          refine ev_cmp_t (t := 300) zo_152_279 rfl (zcm_eq c24) ?_
          exact G_X7_next_300 hd q14.1 q18.2 r h
        rw [if_neg c24] at h
        refine ev_cmp_f (t := 300) zo_152_279 rfl (zcm_neq c24) rfl ?_
        refine ev_iload_n zo_152_282 rfl rfl rfl ?_
        refine ev_bipush (x := 42) zo_152_283 (by decide) rfl ?_
        by_cases c25 : q14.1 = (42 : Int32)
        · rw [if_pos c25] at h
          refine ev_cmp_t (t := 300) zo_152_285 rfl (zcm_eq c25) ?_
          exact G_X7_next_300 hd q14.1 q18.2 r h
        rw [if_neg c25] at h
        refine ev_cmp_f (t := 300) zo_152_285 rfl (zcm_neq c25) rfl ?_
        refine ev_iload_n zo_152_288 rfl rfl rfl ?_
        refine ev_bipush (x := 60) zo_152_289 (by decide) rfl ?_
        by_cases c26 : q14.1 = (60 : Int32)
        · rw [if_pos c26] at h
          refine ev_cmp_t (t := 300) zo_152_291 rfl (zcm_eq c26) ?_
          exact G_X7_next_300 hd q14.1 q18.2 r h
        rw [if_neg c26] at h
        refine ev_cmp_f (t := 300) zo_152_291 rfl (zcm_neq c26) rfl ?_
        refine ev_iload_n zo_152_294 rfl rfl rfl ?_
        refine ev_bipush (x := 61) zo_152_295 (by decide) rfl ?_
        by_cases c27 : q14.1 = (61 : Int32)
        · rw [if_pos c27] at h
          refine ev_cmp_f (t := 321) zo_152_297 rfl (zcm_nne c27) rfl ?_
          exact G_X7_next_300 hd q14.1 q18.2 r h
        rw [if_neg c27] at h
        refine ev_cmp_t (t := 321) zo_152_297 rfl (zcm_ne c27) ?_
        obtain rfl := Option.some.inj h
        exact ev_retV zo_152_321 zr_152
      rw [if_neg c19] at h
      refine ev_if_f (t := 252) zo_152_145 rfl (zcm_neq c19) rfl ?_
      refine ev_aload_n zo_152_148 rfl rfl rfl rfl ?_
      refine ev_iconst (x := 2) zo_152_149 (by decide) rfl ?_
      refine ev_putI zo_152_150 zf_152_166 (by decide) rfl rfl rfl rfl ?_
      refine ev_aload_n zo_152_153 rfl rfl rfl rfl ?_
      refine ev_lconst (x := 0) zo_152_154 (by decide) rfl ?_
      refine ev_putL zo_152_155 zf_152_177 (by decide) rfl rfl rfl rfl ?_
      refine ev_iconst (x := 0) zo_152_158 (by decide) rfl ?_
      refine ev_istore_n zo_152_159 rfl (zz_set rfl (by decide) (Nat.le_of_ble_eq_true rfl)) rfl ?_
      show zzEv _ _ _ [.ref 46, .int q14.1, .int (0 : Int32)] _ _ _
      exact G_X7_next_160 hd 4096 (0 : Int32) (wL (wI q18.2 46 24 (2 : Int32)) 46 26 (0 : Int64)) r h (.int q14.1) rfl
    rw [if_neg c17] at h
    refine ev_if_f (t := 134) zo_152_92 rfl (zcm_neq c17) rfl ?_
    refine ev_aload_n zo_152_95 rfl rfl rfl rfl ?_
    refine ev_iconst (x := 1) zo_152_96 (by decide) rfl ?_
    refine ev_putI zo_152_97 zf_152_166 (by decide) rfl rfl rfl rfl ?_
    exact G_X7_next_100 hd 4096 (wI q16.2 46 24 (1 : Int32)) r h (.int q14.1) rfl
def F_X7_next (J : zzJ) : Option (zzJ) := F_X7_next_0 4096 J
set_option maxRecDepth 100000 in
set_option maxHeartbeats 2000000 in
theorem G_X7_next {d : Nat} (hd : 1 ≤ d) (J : zzJ) (r : zzJ) (h : F_X7_next J = some r) : zzEv d 152 0 [.ref 46, zzU, zzU] [] (zK J) (none, zK r) := by
  unfold F_X7_next at h
  exact G_X7_next_0 hd 4096 J r h
/-! X7_fail -/
def F_X7_fail (J : zzJ) : Option (zzJ) := (if (J.2 46 28) = (0 : Int32) then some (wI (wI J 46 28 (1 : Int32)) 46 29 ((wI J 46 28 (1 : Int32)).2 46 25)) else some J)
set_option maxRecDepth 100000 in
set_option maxHeartbeats 2000000 in
theorem G_X7_fail {d : Nat} (hd : 0 ≤ d) (J : zzJ) (r : zzJ) (h : F_X7_fail J = some r) : zzEv d 153 0 [.ref 46] [] (zK J) (none, zK r) := by
  unfold F_X7_fail at h
  refine ev_aload_n zo_153_0 rfl rfl rfl rfl ?_
  refine ev_getI zo_153_1 zf_153_183 (by decide) (Or.inr rfl) rfl rfl ?_
  by_cases c1 : (J.2 46 28) = (0 : Int32)
  · rw [if_pos c1] at h
    refine ev_if_f (t := 20) zo_153_4 rfl (zcm_nne c1) rfl ?_
    refine ev_aload_n zo_153_7 rfl rfl rfl rfl ?_
    refine ev_iconst (x := 1) zo_153_8 (by decide) rfl ?_
    refine ev_putZ zo_153_9 zf_153_183 (by decide) rfl rfl rfl (Or.inr rfl) rfl ?_
    refine ev_aload_n zo_153_12 rfl rfl rfl rfl ?_
    refine ev_aload_n zo_153_13 rfl rfl rfl rfl ?_
    refine ev_getI zo_153_14 zf_153_163 (by decide) (Or.inl rfl) rfl rfl ?_
    refine ev_putI zo_153_17 zf_153_187 (by decide) rfl rfl rfl rfl ?_
    obtain rfl := Option.some.inj h
    exact ev_retV zo_153_20 zr_153
  rw [if_neg c1] at h
  refine ev_if_t (t := 20) zo_153_4 rfl (zcm_ne c1) ?_
  obtain rfl := Option.some.inj h
  exact ev_retV zo_153_20 zr_153
/-! X7_isLetter -/
def F_X7_isLetter (x1 : Int32) (x2 : Int32) (J : zzJ) : Option (Int32 × zzJ) := (if ((J.2 46 25) + x1) < (J.2 46 23) then (Option.bind (F_X7_byteAt ((J.2 46 25) + x1) J) fun q3 => (if q3.1 = x2 then some ((1 : Int32), q3.2) else some ((0 : Int32), q3.2))) else (if x2 = (0 : Int32) then some ((1 : Int32), J) else some ((0 : Int32), J)))
set_option maxRecDepth 100000 in
set_option maxHeartbeats 2000000 in
theorem G_X7_isLetter {d : Nat} (hd : 1 ≤ d) (x1 : Int32) (x2 : Int32) (J : zzJ) (r : Int32 × zzJ) (h : F_X7_isLetter x1 x2 J = some r) : zzEv d 154 0 [.ref 46, .int x1, .int x2] [] (zK J) (some (.int r.1), zK r.2) := by
  unfold F_X7_isLetter at h
  refine ev_aload_n zo_154_0 rfl rfl rfl rfl ?_
  refine ev_getI zo_154_1 zf_154_163 (by decide) (Or.inl rfl) rfl rfl ?_
  refine ev_iload_n zo_154_4 rfl rfl rfl ?_
  refine ev_iadd zo_154_5 rfl ?_
  refine ev_aload_n zo_154_6 rfl rfl rfl rfl ?_
  refine ev_getI zo_154_7 zf_154_157 (by decide) (Or.inl rfl) rfl rfl ?_
  by_cases c1 : ((J.2 46 25) + x1) < (J.2 46 23)
  · rw [if_pos c1] at h
    refine ev_cmp_f (t := 35) zo_154_10 rfl (zcm_nge c1) rfl ?_
    refine ev_aload_n zo_154_13 rfl rfl rfl rfl ?_
    refine ev_aload_n zo_154_14 rfl rfl rfl rfl ?_
    refine ev_getI zo_154_15 zf_154_163 (by decide) (Or.inl rfl) rfl rfl ?_
    refine ev_iload_n zo_154_18 rfl rfl rfl ?_
    refine ev_iadd zo_154_19 rfl ?_
    obtain ⟨q3, hq3, h⟩ := zz_bd h
    refine ev_cV (as := [.int ((J.2 46 25) + x1)]) (lsn := [.ref 46, .int ((J.2 46 25) + x1)]) (by omega) zo_154_20 zl_154_160 (by rw [zm_151]; rfl) (by rw [zm_151]; exact rfl) (by rw [zm_151]; decide) (by unfold zzIn; rw [zm_151]; rfl) (by rw [zm_151]; exact Nat.le_of_ble_eq_true rfl) (Nat.le_of_ble_eq_true rfl) (G_X7_byteAt (by omega) ((J.2 46 25) + x1) J q3 hq3) rfl ?_
    show zzEv _ _ _ _ [.int q3.1] _ _
    refine ev_iload_n zo_154_23 rfl rfl rfl ?_
    by_cases c4 : q3.1 = x2
    · rw [if_pos c4] at h
      refine ev_cmp_f (t := 31) zo_154_24 rfl (zcm_nne c4) rfl ?_
      refine ev_iconst (x := 1) zo_154_27 (by decide) rfl ?_
      refine ev_goto (t := 44) zo_154_28 rfl ?_
      obtain rfl := Option.some.inj h
      exact ev_retZ zo_154_44 zr_154 (Or.inr rfl)
    rw [if_neg c4] at h
    refine ev_cmp_t (t := 31) zo_154_24 rfl (zcm_ne c4) ?_
    refine ev_iconst (x := 0) zo_154_31 (by decide) rfl ?_
    refine ev_goto (t := 44) zo_154_32 rfl ?_
    obtain rfl := Option.some.inj h
    exact ev_retZ zo_154_44 zr_154 (Or.inl rfl)
  rw [if_neg c1] at h
  refine ev_cmp_t (t := 35) zo_154_10 rfl (zcm_ge c1) ?_
  refine ev_iload_n zo_154_35 rfl rfl rfl ?_
  by_cases c2 : x2 = (0 : Int32)
  · rw [if_pos c2] at h
    refine ev_if_f (t := 43) zo_154_36 rfl (zcm_nne c2) rfl ?_
    refine ev_iconst (x := 1) zo_154_39 (by decide) rfl ?_
    refine ev_goto (t := 44) zo_154_40 rfl ?_
    obtain rfl := Option.some.inj h
    exact ev_retZ zo_154_44 zr_154 (Or.inr rfl)
  rw [if_neg c2] at h
  refine ev_if_t (t := 43) zo_154_36 rfl (zcm_ne c2) ?_
  refine ev_iconst (x := 0) zo_154_43 (by decide) rfl ?_
  obtain rfl := Option.some.inj h
  exact ev_retZ zo_154_44 zr_154 (Or.inl rfl)
/-! X7_isWord -/
def F_X7_isWord (x1 : Int32) (x2 : Int32) (x3 : Int32) (x4 : Int32) (x5 : Int32) (x6 : Int32) (x7 : Int32) (x8 : Int32) (J : zzJ) : Option (Int32 × zzJ) := (if (J.2 46 28) = (0 : Int32) then (if (J.2 46 24) = (1 : Int32) then (if ((J.2 46 25) + (8 : Int32)) < (J.2 46 23) then some ((0 : Int32), J) else (Option.bind (F_X7_isLetter (0 : Int32) x1 J) fun q4 => (if q4.1 = (0 : Int32) then some ((0 : Int32), q4.2) else (Option.bind (F_X7_isLetter (1 : Int32) x2 q4.2) fun q6 => (if q6.1 = (0 : Int32) then some ((0 : Int32), q6.2) else (Option.bind (F_X7_isLetter (2 : Int32) x3 q6.2) fun q8 => (if q8.1 = (0 : Int32) then some ((0 : Int32), q8.2) else (Option.bind (F_X7_isLetter (3 : Int32) x4 q8.2) fun q10 => (if q10.1 = (0 : Int32) then some ((0 : Int32), q10.2) else (Option.bind (F_X7_isLetter (4 : Int32) x5 q10.2) fun q12 => (if q12.1 = (0 : Int32) then some ((0 : Int32), q12.2) else (Option.bind (F_X7_isLetter (5 : Int32) x6 q12.2) fun q14 => (if q14.1 = (0 : Int32) then some ((0 : Int32), q14.2) else (Option.bind (F_X7_isLetter (6 : Int32) x7 q14.2) fun q16 => (if q16.1 = (0 : Int32) then some ((0 : Int32), q16.2) else (Option.bind (F_X7_isLetter (7 : Int32) x8 q16.2) fun q18 => (if q18.1 = (0 : Int32) then some ((0 : Int32), q18.2) else some ((1 : Int32), q18.2)))))))))))))))))) else some ((0 : Int32), J)) else some ((0 : Int32), J))
set_option maxRecDepth 100000 in
set_option maxHeartbeats 2000000 in
theorem G_X7_isWord {d : Nat} (hd : 2 ≤ d) (x1 : Int32) (x2 : Int32) (x3 : Int32) (x4 : Int32) (x5 : Int32) (x6 : Int32) (x7 : Int32) (x8 : Int32) (J : zzJ) (r : Int32 × zzJ) (h : F_X7_isWord x1 x2 x3 x4 x5 x6 x7 x8 J = some r) : zzEv d 155 0 [.ref 46, .int x1, .int x2, .int x3, .int x4, .int x5, .int x6, .int x7, .int x8] [] (zK J) (some (.int r.1), zK r.2) := by
  unfold F_X7_isWord at h
  refine ev_aload_n zo_155_0 rfl rfl rfl rfl ?_
  refine ev_getI zo_155_1 zf_155_183 (by decide) (Or.inr rfl) rfl rfl ?_
  by_cases c1 : (J.2 46 28) = (0 : Int32)
  · rw [if_pos c1] at h
    refine ev_if_f (t := 112) zo_155_4 rfl (zcm_nne c1) rfl ?_
    refine ev_aload_n zo_155_7 rfl rfl rfl rfl ?_
    refine ev_getI zo_155_8 zf_155_166 (by decide) (Or.inl rfl) rfl rfl ?_
    refine ev_iconst (x := 1) zo_155_11 (by decide) rfl ?_
    by_cases c2 : (J.2 46 24) = (1 : Int32)
    · rw [if_pos c2] at h
      refine ev_cmp_f (t := 112) zo_155_12 rfl (zcm_nne c2) rfl ?_
      refine ev_aload_n zo_155_15 rfl rfl rfl rfl ?_
      refine ev_getI zo_155_16 zf_155_157 (by decide) (Or.inl rfl) rfl rfl ?_
      refine ev_aload_n zo_155_19 rfl rfl rfl rfl ?_
      refine ev_getI zo_155_20 zf_155_163 (by decide) (Or.inl rfl) rfl rfl ?_
      refine ev_bipush (x := 8) zo_155_23 (by decide) rfl ?_
      refine ev_iadd zo_155_25 rfl ?_
      by_cases c3 : ((J.2 46 25) + (8 : Int32)) < (J.2 46 23)
      · rw [if_pos c3] at h
        refine ev_cmp_t (t := 112) zo_155_26 rfl (zcm_gt c3) ?_
        refine ev_iconst (x := 0) zo_155_112 (by decide) rfl ?_
        obtain rfl := Option.some.inj h
        exact ev_retZ zo_155_113 zr_155 (Or.inl rfl)
      rw [if_neg c3] at h
      refine ev_cmp_f (t := 112) zo_155_26 rfl (zcm_ngt c3) rfl ?_
      refine ev_aload_n zo_155_29 rfl rfl rfl rfl ?_
      refine ev_iconst (x := 0) zo_155_30 (by decide) rfl ?_
      refine ev_iload_n zo_155_31 rfl rfl rfl ?_
      obtain ⟨q4, hq4, h⟩ := zz_bd h
      refine ev_cV (as := [.int x1, .int (0 : Int32)]) (lsn := [.ref 46, .int (0 : Int32), .int x1]) (by omega) zo_155_32 zl_155_190 (by rw [zm_154]; rfl) (by rw [zm_154]; exact rfl) (by rw [zm_154]; decide) (by unfold zzIn; rw [zm_154]; rfl) (by rw [zm_154]; exact Nat.le_of_ble_eq_true rfl) (Nat.le_of_ble_eq_true rfl) (G_X7_isLetter (by omega) (0 : Int32) x1 J q4 hq4) rfl ?_
      show zzEv _ _ _ _ [.int q4.1] _ _
      by_cases c5 : q4.1 = (0 : Int32)
      · rw [if_pos c5] at h
        refine ev_if_t (t := 112) zo_155_35 rfl (zcm_eq c5) ?_
        refine ev_iconst (x := 0) zo_155_112 (by decide) rfl ?_
        obtain rfl := Option.some.inj h
        exact ev_retZ zo_155_113 zr_155 (Or.inl rfl)
      rw [if_neg c5] at h
      refine ev_if_f (t := 112) zo_155_35 rfl (zcm_neq c5) rfl ?_
      refine ev_aload_n zo_155_38 rfl rfl rfl rfl ?_
      refine ev_iconst (x := 1) zo_155_39 (by decide) rfl ?_
      refine ev_iload_n zo_155_40 rfl rfl rfl ?_
      obtain ⟨q6, hq6, h⟩ := zz_bd h
      refine ev_cV (as := [.int x2, .int (1 : Int32)]) (lsn := [.ref 46, .int (1 : Int32), .int x2]) (by omega) zo_155_41 zl_155_190 (by rw [zm_154]; rfl) (by rw [zm_154]; exact rfl) (by rw [zm_154]; decide) (by unfold zzIn; rw [zm_154]; rfl) (by rw [zm_154]; exact Nat.le_of_ble_eq_true rfl) (Nat.le_of_ble_eq_true rfl) (G_X7_isLetter (by omega) (1 : Int32) x2 q4.2 q6 hq6) rfl ?_
      show zzEv _ _ _ _ [.int q6.1] _ _
      by_cases c7 : q6.1 = (0 : Int32)
      · rw [if_pos c7] at h
        refine ev_if_t (t := 112) zo_155_44 rfl (zcm_eq c7) ?_
        refine ev_iconst (x := 0) zo_155_112 (by decide) rfl ?_
        obtain rfl := Option.some.inj h
        exact ev_retZ zo_155_113 zr_155 (Or.inl rfl)
      rw [if_neg c7] at h
      refine ev_if_f (t := 112) zo_155_44 rfl (zcm_neq c7) rfl ?_
      refine ev_aload_n zo_155_47 rfl rfl rfl rfl ?_
      refine ev_iconst (x := 2) zo_155_48 (by decide) rfl ?_
      refine ev_iload_n zo_155_49 rfl rfl rfl ?_
      obtain ⟨q8, hq8, h⟩ := zz_bd h
      refine ev_cV (as := [.int x3, .int (2 : Int32)]) (lsn := [.ref 46, .int (2 : Int32), .int x3]) (by omega) zo_155_50 zl_155_190 (by rw [zm_154]; rfl) (by rw [zm_154]; exact rfl) (by rw [zm_154]; decide) (by unfold zzIn; rw [zm_154]; rfl) (by rw [zm_154]; exact Nat.le_of_ble_eq_true rfl) (Nat.le_of_ble_eq_true rfl) (G_X7_isLetter (by omega) (2 : Int32) x3 q6.2 q8 hq8) rfl ?_
      show zzEv _ _ _ _ [.int q8.1] _ _
      by_cases c9 : q8.1 = (0 : Int32)
      · rw [if_pos c9] at h
        refine ev_if_t (t := 112) zo_155_53 rfl (zcm_eq c9) ?_
        refine ev_iconst (x := 0) zo_155_112 (by decide) rfl ?_
        obtain rfl := Option.some.inj h
        exact ev_retZ zo_155_113 zr_155 (Or.inl rfl)
      rw [if_neg c9] at h
      refine ev_if_f (t := 112) zo_155_53 rfl (zcm_neq c9) rfl ?_
      refine ev_aload_n zo_155_56 rfl rfl rfl rfl ?_
      refine ev_iconst (x := 3) zo_155_57 (by decide) rfl ?_
      refine ev_iload zo_155_58 rfl rfl ?_
      obtain ⟨q10, hq10, h⟩ := zz_bd h
      refine ev_cV (as := [.int x4, .int (3 : Int32)]) (lsn := [.ref 46, .int (3 : Int32), .int x4]) (by omega) zo_155_60 zl_155_190 (by rw [zm_154]; rfl) (by rw [zm_154]; exact rfl) (by rw [zm_154]; decide) (by unfold zzIn; rw [zm_154]; rfl) (by rw [zm_154]; exact Nat.le_of_ble_eq_true rfl) (Nat.le_of_ble_eq_true rfl) (G_X7_isLetter (by omega) (3 : Int32) x4 q8.2 q10 hq10) rfl ?_
      show zzEv _ _ _ _ [.int q10.1] _ _
      by_cases c11 : q10.1 = (0 : Int32)
      · rw [if_pos c11] at h
        refine ev_if_t (t := 112) zo_155_63 rfl (zcm_eq c11) ?_
        refine ev_iconst (x := 0) zo_155_112 (by decide) rfl ?_
        obtain rfl := Option.some.inj h
        exact ev_retZ zo_155_113 zr_155 (Or.inl rfl)
      rw [if_neg c11] at h
      refine ev_if_f (t := 112) zo_155_63 rfl (zcm_neq c11) rfl ?_
      refine ev_aload_n zo_155_66 rfl rfl rfl rfl ?_
      refine ev_iconst (x := 4) zo_155_67 (by decide) rfl ?_
      refine ev_iload zo_155_68 rfl rfl ?_
      obtain ⟨q12, hq12, h⟩ := zz_bd h
      refine ev_cV (as := [.int x5, .int (4 : Int32)]) (lsn := [.ref 46, .int (4 : Int32), .int x5]) (by omega) zo_155_70 zl_155_190 (by rw [zm_154]; rfl) (by rw [zm_154]; exact rfl) (by rw [zm_154]; decide) (by unfold zzIn; rw [zm_154]; rfl) (by rw [zm_154]; exact Nat.le_of_ble_eq_true rfl) (Nat.le_of_ble_eq_true rfl) (G_X7_isLetter (by omega) (4 : Int32) x5 q10.2 q12 hq12) rfl ?_
      show zzEv _ _ _ _ [.int q12.1] _ _
      by_cases c13 : q12.1 = (0 : Int32)
      · rw [if_pos c13] at h
        refine ev_if_t (t := 112) zo_155_73 rfl (zcm_eq c13) ?_
        refine ev_iconst (x := 0) zo_155_112 (by decide) rfl ?_
        obtain rfl := Option.some.inj h
        exact ev_retZ zo_155_113 zr_155 (Or.inl rfl)
      rw [if_neg c13] at h
      refine ev_if_f (t := 112) zo_155_73 rfl (zcm_neq c13) rfl ?_
      refine ev_aload_n zo_155_76 rfl rfl rfl rfl ?_
      refine ev_iconst (x := 5) zo_155_77 (by decide) rfl ?_
      refine ev_iload zo_155_78 rfl rfl ?_
      obtain ⟨q14, hq14, h⟩ := zz_bd h
      refine ev_cV (as := [.int x6, .int (5 : Int32)]) (lsn := [.ref 46, .int (5 : Int32), .int x6]) (by omega) zo_155_80 zl_155_190 (by rw [zm_154]; rfl) (by rw [zm_154]; exact rfl) (by rw [zm_154]; decide) (by unfold zzIn; rw [zm_154]; rfl) (by rw [zm_154]; exact Nat.le_of_ble_eq_true rfl) (Nat.le_of_ble_eq_true rfl) (G_X7_isLetter (by omega) (5 : Int32) x6 q12.2 q14 hq14) rfl ?_
      show zzEv _ _ _ _ [.int q14.1] _ _
      by_cases c15 : q14.1 = (0 : Int32)
      · rw [if_pos c15] at h
        refine ev_if_t (t := 112) zo_155_83 rfl (zcm_eq c15) ?_
        refine ev_iconst (x := 0) zo_155_112 (by decide) rfl ?_
        obtain rfl := Option.some.inj h
        exact ev_retZ zo_155_113 zr_155 (Or.inl rfl)
      rw [if_neg c15] at h
      refine ev_if_f (t := 112) zo_155_83 rfl (zcm_neq c15) rfl ?_
      refine ev_aload_n zo_155_86 rfl rfl rfl rfl ?_
      refine ev_bipush (x := 6) zo_155_87 (by decide) rfl ?_
      refine ev_iload zo_155_89 rfl rfl ?_
      obtain ⟨q16, hq16, h⟩ := zz_bd h
      refine ev_cV (as := [.int x7, .int (6 : Int32)]) (lsn := [.ref 46, .int (6 : Int32), .int x7]) (by omega) zo_155_91 zl_155_190 (by rw [zm_154]; rfl) (by rw [zm_154]; exact rfl) (by rw [zm_154]; decide) (by unfold zzIn; rw [zm_154]; rfl) (by rw [zm_154]; exact Nat.le_of_ble_eq_true rfl) (Nat.le_of_ble_eq_true rfl) (G_X7_isLetter (by omega) (6 : Int32) x7 q14.2 q16 hq16) rfl ?_
      show zzEv _ _ _ _ [.int q16.1] _ _
      by_cases c17 : q16.1 = (0 : Int32)
      · rw [if_pos c17] at h
        refine ev_if_t (t := 112) zo_155_94 rfl (zcm_eq c17) ?_
        refine ev_iconst (x := 0) zo_155_112 (by decide) rfl ?_
        obtain rfl := Option.some.inj h
        exact ev_retZ zo_155_113 zr_155 (Or.inl rfl)
      rw [if_neg c17] at h
      refine ev_if_f (t := 112) zo_155_94 rfl (zcm_neq c17) rfl ?_
      refine ev_aload_n zo_155_97 rfl rfl rfl rfl ?_
      refine ev_bipush (x := 7) zo_155_98 (by decide) rfl ?_
      refine ev_iload zo_155_100 rfl rfl ?_
      obtain ⟨q18, hq18, h⟩ := zz_bd h
      refine ev_cV (as := [.int x8, .int (7 : Int32)]) (lsn := [.ref 46, .int (7 : Int32), .int x8]) (by omega) zo_155_102 zl_155_190 (by rw [zm_154]; rfl) (by rw [zm_154]; exact rfl) (by rw [zm_154]; decide) (by unfold zzIn; rw [zm_154]; rfl) (by rw [zm_154]; exact Nat.le_of_ble_eq_true rfl) (Nat.le_of_ble_eq_true rfl) (G_X7_isLetter (by omega) (7 : Int32) x8 q16.2 q18 hq18) rfl ?_
      show zzEv _ _ _ _ [.int q18.1] _ _
      by_cases c19 : q18.1 = (0 : Int32)
      · rw [if_pos c19] at h
        refine ev_if_t (t := 112) zo_155_105 rfl (zcm_eq c19) ?_
        refine ev_iconst (x := 0) zo_155_112 (by decide) rfl ?_
        obtain rfl := Option.some.inj h
        exact ev_retZ zo_155_113 zr_155 (Or.inl rfl)
      rw [if_neg c19] at h
      refine ev_if_f (t := 112) zo_155_105 rfl (zcm_neq c19) rfl ?_
      refine ev_iconst (x := 1) zo_155_108 (by decide) rfl ?_
      refine ev_goto (t := 113) zo_155_109 rfl ?_
      obtain rfl := Option.some.inj h
      exact ev_retZ zo_155_113 zr_155 (Or.inr rfl)
    rw [if_neg c2] at h
    refine ev_cmp_t (t := 112) zo_155_12 rfl (zcm_ne c2) ?_
    refine ev_iconst (x := 0) zo_155_112 (by decide) rfl ?_
    obtain rfl := Option.some.inj h
    exact ev_retZ zo_155_113 zr_155 (Or.inl rfl)
  rw [if_neg c1] at h
  refine ev_if_t (t := 112) zo_155_4 rfl (zcm_ne c1) ?_
  refine ev_iconst (x := 0) zo_155_112 (by decide) rfl ?_
  obtain rfl := Option.some.inj h
  exact ev_retZ zo_155_113 zr_155 (Or.inl rfl)
/-! X7_isSign -/
def F_X7_isSign (x1 : Int32) (J : zzJ) : Option (Int32 × zzJ) := (if (J.2 46 28) = (0 : Int32) then (if (J.2 46 24) = (3 : Int32) then (if (lg_cmp (J.1 46 26) x1.toInt64) = (0 : Int32) then some ((1 : Int32), J) else some ((0 : Int32), J)) else some ((0 : Int32), J)) else some ((0 : Int32), J))
set_option maxRecDepth 100000 in
set_option maxHeartbeats 2000000 in
theorem G_X7_isSign {d : Nat} (hd : 0 ≤ d) (x1 : Int32) (J : zzJ) (r : Int32 × zzJ) (h : F_X7_isSign x1 J = some r) : zzEv d 156 0 [.ref 46, .int x1] [] (zK J) (some (.int r.1), zK r.2) := by
  unfold F_X7_isSign at h
  refine ev_aload_n zo_156_0 rfl rfl rfl rfl ?_
  refine ev_getI zo_156_1 zf_156_183 (by decide) (Or.inr rfl) rfl rfl ?_
  by_cases c1 : (J.2 46 28) = (0 : Int32)
  · rw [if_pos c1] at h
    refine ev_if_f (t := 29) zo_156_4 rfl (zcm_nne c1) rfl ?_
    refine ev_aload_n zo_156_7 rfl rfl rfl rfl ?_
    refine ev_getI zo_156_8 zf_156_166 (by decide) (Or.inl rfl) rfl rfl ?_
    refine ev_iconst (x := 3) zo_156_11 (by decide) rfl ?_
    by_cases c2 : (J.2 46 24) = (3 : Int32)
    · rw [if_pos c2] at h
      refine ev_cmp_f (t := 29) zo_156_12 rfl (zcm_nne c2) rfl ?_
      refine ev_aload_n zo_156_15 rfl rfl rfl rfl ?_
      refine ev_getL zo_156_16 zf_156_177 (by decide) rfl rfl rfl ?_
      refine ev_iload_n zo_156_19 rfl rfl rfl ?_
      refine ev_i2l zo_156_20 rfl ?_
      refine ev_lcmp zo_156_21 rfl ?_
      by_cases c3 : (lg_cmp (J.1 46 26) x1.toInt64) = (0 : Int32)
      · rw [if_pos c3] at h
        refine ev_if_f (t := 29) zo_156_22 rfl (zcm_nne c3) rfl ?_
        refine ev_iconst (x := 1) zo_156_25 (by decide) rfl ?_
        refine ev_goto (t := 30) zo_156_26 rfl ?_
        obtain rfl := Option.some.inj h
        exact ev_retZ zo_156_30 zr_156 (Or.inr rfl)
      rw [if_neg c3] at h
      refine ev_if_t (t := 29) zo_156_22 rfl (zcm_ne c3) ?_
      refine ev_iconst (x := 0) zo_156_29 (by decide) rfl ?_
      obtain rfl := Option.some.inj h
      exact ev_retZ zo_156_30 zr_156 (Or.inl rfl)
    rw [if_neg c2] at h
    refine ev_cmp_t (t := 29) zo_156_12 rfl (zcm_ne c2) ?_
    refine ev_iconst (x := 0) zo_156_29 (by decide) rfl ?_
    obtain rfl := Option.some.inj h
    exact ev_retZ zo_156_30 zr_156 (Or.inl rfl)
  rw [if_neg c1] at h
  refine ev_if_t (t := 29) zo_156_4 rfl (zcm_ne c1) ?_
  refine ev_iconst (x := 0) zo_156_29 (by decide) rfl ?_
  obtain rfl := Option.some.inj h
  exact ev_retZ zo_156_30 zr_156 (Or.inl rfl)
/-! X7_opens -/
def F_X7_opens (J : zzJ) : Option (Int32 × zzJ) := (if (J.2 46 27) = (5 : Int32) then (Option.bind (F_X7_fail J) fun q3 => some ((0 : Int32), q3)) else (Option.bind (F_X7_next (wI J 46 27 ((J.2 46 27) + (1 : Int32)))) fun q2 => some ((1 : Int32), q2)))
set_option maxRecDepth 100000 in
set_option maxHeartbeats 2000000 in
theorem G_X7_opens {d : Nat} (hd : 2 ≤ d) (J : zzJ) (r : Int32 × zzJ) (h : F_X7_opens J = some r) : zzEv d 157 0 [.ref 46] [] (zK J) (some (.int r.1), zK r.2) := by
  unfold F_X7_opens at h
  refine ev_aload_n zo_157_0 rfl rfl rfl rfl ?_
  refine ev_getI zo_157_1 zf_157_194 (by decide) (Or.inl rfl) rfl rfl ?_
  refine ev_iconst (x := 5) zo_157_4 (by decide) rfl ?_
  by_cases c1 : (J.2 46 27) = (5 : Int32)
  · rw [if_pos c1] at h
    refine ev_cmp_f (t := 14) zo_157_5 rfl (zcm_nne c1) rfl ?_
    refine ev_aload_n zo_157_8 rfl rfl rfl rfl ?_
    obtain ⟨q3, hq3, h⟩ := zz_bd h
    refine ev_cV (as := []) (lsn := [.ref 46]) (by omega) zo_157_9 zl_157_197 (by rw [zm_153]; rfl) (by rw [zm_153]; exact rfl) (by rw [zm_153]; decide) (by unfold zzIn; rw [zm_153]; rfl) (by rw [zm_153]; exact Nat.le_of_ble_eq_true rfl) (Nat.le_of_ble_eq_true rfl) (G_X7_fail (by omega) J q3 hq3) rfl ?_
    show zzEv _ _ _ _ [] _ _
    refine ev_iconst (x := 0) zo_157_12 (by decide) rfl ?_
    obtain rfl := Option.some.inj h
    exact ev_retZ zo_157_13 zr_157 (Or.inl rfl)
  rw [if_neg c1] at h
  refine ev_cmp_t (t := 14) zo_157_5 rfl (zcm_ne c1) ?_
  refine ev_aload_n zo_157_14 rfl rfl rfl rfl ?_
  refine ev_dup zo_157_15 rfl rfl ?_
  refine ev_getI zo_157_16 zf_157_194 (by decide) (Or.inl rfl) rfl rfl ?_
  refine ev_iconst (x := 1) zo_157_19 (by decide) rfl ?_
  refine ev_iadd zo_157_20 rfl ?_
  refine ev_putI zo_157_21 zf_157_194 (by decide) rfl rfl rfl rfl ?_
  refine ev_aload_n zo_157_24 rfl rfl rfl rfl ?_
  obtain ⟨q2, hq2, h⟩ := zz_bd h
  refine ev_cV (as := []) (lsn := [.ref 46, zzU, zzU]) (by omega) zo_157_25 zl_157_200 (by rw [zm_152]; rfl) (by rw [zm_152]; exact rfl) (by rw [zm_152]; decide) (by unfold zzIn; rw [zm_152]; rfl) (by rw [zm_152]; exact Nat.le_of_ble_eq_true rfl) (Nat.le_of_ble_eq_true rfl) (G_X7_next (by omega) (wI J 46 27 ((J.2 46 27) + (1 : Int32))) q2 hq2) rfl ?_
  show zzEv _ _ _ _ [] _ _
  refine ev_iconst (x := 1) zo_157_28 (by decide) rfl ?_
  obtain rfl := Option.some.inj h
  exact ev_retZ zo_157_29 zr_157 (Or.inr rfl)
/-! X7_name -/
def F_X7_name (J : zzJ) : Option (Int32 × zzJ) := (Option.bind (F_X7_isWord (114 : Int32) (111 : Int32) (119 : Int32) (0 : Int32) (0 : Int32) (0 : Int32) (0 : Int32) (0 : Int32) J) fun q1 => (if q1.1 = (0 : Int32) then (Option.bind (F_X7_isWord (99 : Int32) (111 : Int32) (108 : Int32) (117 : Int32) (109 : Int32) (110 : Int32) (0 : Int32) (0 : Int32) q1.2) fun q3 => (if q3.1 = (0 : Int32) then (Option.bind (F_X7_isWord (109 : Int32) (105 : Int32) (108 : Int32) (101 : Int32) (0 : Int32) (0 : Int32) (0 : Int32) (0 : Int32) q3.2) fun q5 => (if q5.1 = (0 : Int32) then (Option.bind (F_X7_isWord (110 : Int32) (117 : Int32) (109 : Int32) (98 : Int32) (101 : Int32) (114 : Int32) (0 : Int32) (0 : Int32) q5.2) fun q7 => (if q7.1 = (0 : Int32) then (Option.bind (F_X7_isWord (98 : Int32) (101 : Int32) (115 : Int32) (105 : Int32) (100 : Int32) (101 : Int32) (0 : Int32) (0 : Int32) q7.2) fun q9 => (if q9.1 = (0 : Int32) then (Option.bind (F_X7_isWord (102 : Int32) (114 : Int32) (105 : Int32) (101 : Int32) (110 : Int32) (100 : Int32) (0 : Int32) (0 : Int32) q9.2) fun q11 => (if q11.1 = (0 : Int32) then (Option.bind (F_X7_fail q11.2) fun q13 => some ((0 : Int32), q13)) else some ((q11.2.2 46 20), q11.2))) else some ((q9.2.2 46 19), q9.2))) else some ((q7.2.2 46 18), q7.2))) else some ((q5.2.2 46 17), q5.2))) else some ((q3.2.2 46 16), q3.2))) else some ((q1.2.2 46 15), q1.2)))
set_option maxRecDepth 100000 in
set_option maxHeartbeats 2000000 in
theorem G_X7_name {d : Nat} (hd : 3 ≤ d) (J : zzJ) (r : Int32 × zzJ) (h : F_X7_name J = some r) : zzEv d 158 0 [.ref 46] [] (zK J) (some (.int r.1), zK r.2) := by
  unfold F_X7_name at h
  refine ev_aload_n zo_158_0 rfl rfl rfl rfl ?_
  refine ev_bipush (x := 114) zo_158_1 (by decide) rfl ?_
  refine ev_bipush (x := 111) zo_158_3 (by decide) rfl ?_
  refine ev_bipush (x := 119) zo_158_5 (by decide) rfl ?_
  refine ev_iconst (x := 0) zo_158_7 (by decide) rfl ?_
  refine ev_iconst (x := 0) zo_158_8 (by decide) rfl ?_
  refine ev_iconst (x := 0) zo_158_9 (by decide) rfl ?_
  refine ev_iconst (x := 0) zo_158_10 (by decide) rfl ?_
  refine ev_iconst (x := 0) zo_158_11 (by decide) rfl ?_
  obtain ⟨q1, hq1, h⟩ := zz_bd h
  refine ev_cV (as := [.int (0 : Int32), .int (0 : Int32), .int (0 : Int32), .int (0 : Int32), .int (0 : Int32), .int (119 : Int32), .int (111 : Int32), .int (114 : Int32)]) (lsn := [.ref 46, .int (114 : Int32), .int (111 : Int32), .int (119 : Int32), .int (0 : Int32), .int (0 : Int32), .int (0 : Int32), .int (0 : Int32), .int (0 : Int32)]) (by omega) zo_158_12 zl_158_203 (by rw [zm_155]; rfl) (by rw [zm_155]; exact rfl) (by rw [zm_155]; decide) (by unfold zzIn; rw [zm_155]; rfl) (by rw [zm_155]; exact Nat.le_of_ble_eq_true rfl) (Nat.le_of_ble_eq_true rfl) (G_X7_isWord (by omega) (114 : Int32) (111 : Int32) (119 : Int32) (0 : Int32) (0 : Int32) (0 : Int32) (0 : Int32) (0 : Int32) J q1 hq1) rfl ?_
  show zzEv _ _ _ _ [.int q1.1] _ _
  by_cases c2 : q1.1 = (0 : Int32)
  · rw [if_pos c2] at h
    refine ev_if_t (t := 23) zo_158_15 rfl (zcm_eq c2) ?_
    refine ev_aload_n zo_158_23 rfl rfl rfl rfl ?_
    refine ev_bipush (x := 99) zo_158_24 (by decide) rfl ?_
    refine ev_bipush (x := 111) zo_158_26 (by decide) rfl ?_
    refine ev_bipush (x := 108) zo_158_28 (by decide) rfl ?_
    refine ev_bipush (x := 117) zo_158_30 (by decide) rfl ?_
    refine ev_bipush (x := 109) zo_158_32 (by decide) rfl ?_
    refine ev_bipush (x := 110) zo_158_34 (by decide) rfl ?_
    refine ev_iconst (x := 0) zo_158_36 (by decide) rfl ?_
    refine ev_iconst (x := 0) zo_158_37 (by decide) rfl ?_
    obtain ⟨q3, hq3, h⟩ := zz_bd h
    refine ev_cV (as := [.int (0 : Int32), .int (0 : Int32), .int (110 : Int32), .int (109 : Int32), .int (117 : Int32), .int (108 : Int32), .int (111 : Int32), .int (99 : Int32)]) (lsn := [.ref 46, .int (99 : Int32), .int (111 : Int32), .int (108 : Int32), .int (117 : Int32), .int (109 : Int32), .int (110 : Int32), .int (0 : Int32), .int (0 : Int32)]) (by omega) zo_158_38 zl_158_203 (by rw [zm_155]; rfl) (by rw [zm_155]; exact rfl) (by rw [zm_155]; decide) (by unfold zzIn; rw [zm_155]; rfl) (by rw [zm_155]; exact Nat.le_of_ble_eq_true rfl) (Nat.le_of_ble_eq_true rfl) (G_X7_isWord (by omega) (99 : Int32) (111 : Int32) (108 : Int32) (117 : Int32) (109 : Int32) (110 : Int32) (0 : Int32) (0 : Int32) q1.2 q3 hq3) rfl ?_
    show zzEv _ _ _ _ [.int q3.1] _ _
    by_cases c4 : q3.1 = (0 : Int32)
    · rw [if_pos c4] at h
      refine ev_if_t (t := 49) zo_158_41 rfl (zcm_eq c4) ?_
      refine ev_aload_n zo_158_49 rfl rfl rfl rfl ?_
      refine ev_bipush (x := 109) zo_158_50 (by decide) rfl ?_
      refine ev_bipush (x := 105) zo_158_52 (by decide) rfl ?_
      refine ev_bipush (x := 108) zo_158_54 (by decide) rfl ?_
      refine ev_bipush (x := 101) zo_158_56 (by decide) rfl ?_
      refine ev_iconst (x := 0) zo_158_58 (by decide) rfl ?_
      refine ev_iconst (x := 0) zo_158_59 (by decide) rfl ?_
      refine ev_iconst (x := 0) zo_158_60 (by decide) rfl ?_
      refine ev_iconst (x := 0) zo_158_61 (by decide) rfl ?_
      obtain ⟨q5, hq5, h⟩ := zz_bd h
      refine ev_cV (as := [.int (0 : Int32), .int (0 : Int32), .int (0 : Int32), .int (0 : Int32), .int (101 : Int32), .int (108 : Int32), .int (105 : Int32), .int (109 : Int32)]) (lsn := [.ref 46, .int (109 : Int32), .int (105 : Int32), .int (108 : Int32), .int (101 : Int32), .int (0 : Int32), .int (0 : Int32), .int (0 : Int32), .int (0 : Int32)]) (by omega) zo_158_62 zl_158_203 (by rw [zm_155]; rfl) (by rw [zm_155]; exact rfl) (by rw [zm_155]; decide) (by unfold zzIn; rw [zm_155]; rfl) (by rw [zm_155]; exact Nat.le_of_ble_eq_true rfl) (Nat.le_of_ble_eq_true rfl) (G_X7_isWord (by omega) (109 : Int32) (105 : Int32) (108 : Int32) (101 : Int32) (0 : Int32) (0 : Int32) (0 : Int32) (0 : Int32) q3.2 q5 hq5) rfl ?_
      show zzEv _ _ _ _ [.int q5.1] _ _
      by_cases c6 : q5.1 = (0 : Int32)
      · rw [if_pos c6] at h
        refine ev_if_t (t := 73) zo_158_65 rfl (zcm_eq c6) ?_
        refine ev_aload_n zo_158_73 rfl rfl rfl rfl ?_
        refine ev_bipush (x := 110) zo_158_74 (by decide) rfl ?_
        refine ev_bipush (x := 117) zo_158_76 (by decide) rfl ?_
        refine ev_bipush (x := 109) zo_158_78 (by decide) rfl ?_
        refine ev_bipush (x := 98) zo_158_80 (by decide) rfl ?_
        refine ev_bipush (x := 101) zo_158_82 (by decide) rfl ?_
        refine ev_bipush (x := 114) zo_158_84 (by decide) rfl ?_
        refine ev_iconst (x := 0) zo_158_86 (by decide) rfl ?_
        refine ev_iconst (x := 0) zo_158_87 (by decide) rfl ?_
        obtain ⟨q7, hq7, h⟩ := zz_bd h
        refine ev_cV (as := [.int (0 : Int32), .int (0 : Int32), .int (114 : Int32), .int (101 : Int32), .int (98 : Int32), .int (109 : Int32), .int (117 : Int32), .int (110 : Int32)]) (lsn := [.ref 46, .int (110 : Int32), .int (117 : Int32), .int (109 : Int32), .int (98 : Int32), .int (101 : Int32), .int (114 : Int32), .int (0 : Int32), .int (0 : Int32)]) (by omega) zo_158_88 zl_158_203 (by rw [zm_155]; rfl) (by rw [zm_155]; exact rfl) (by rw [zm_155]; decide) (by unfold zzIn; rw [zm_155]; rfl) (by rw [zm_155]; exact Nat.le_of_ble_eq_true rfl) (Nat.le_of_ble_eq_true rfl) (G_X7_isWord (by omega) (110 : Int32) (117 : Int32) (109 : Int32) (98 : Int32) (101 : Int32) (114 : Int32) (0 : Int32) (0 : Int32) q5.2 q7 hq7) rfl ?_
        show zzEv _ _ _ _ [.int q7.1] _ _
        by_cases c8 : q7.1 = (0 : Int32)
        · rw [if_pos c8] at h
          refine ev_if_t (t := 99) zo_158_91 rfl (zcm_eq c8) ?_
          refine ev_aload_n zo_158_99 rfl rfl rfl rfl ?_
          refine ev_bipush (x := 98) zo_158_100 (by decide) rfl ?_
          refine ev_bipush (x := 101) zo_158_102 (by decide) rfl ?_
          refine ev_bipush (x := 115) zo_158_104 (by decide) rfl ?_
          refine ev_bipush (x := 105) zo_158_106 (by decide) rfl ?_
          refine ev_bipush (x := 100) zo_158_108 (by decide) rfl ?_
          refine ev_bipush (x := 101) zo_158_110 (by decide) rfl ?_
          refine ev_iconst (x := 0) zo_158_112 (by decide) rfl ?_
          refine ev_iconst (x := 0) zo_158_113 (by decide) rfl ?_
          obtain ⟨q9, hq9, h⟩ := zz_bd h
          refine ev_cV (as := [.int (0 : Int32), .int (0 : Int32), .int (101 : Int32), .int (100 : Int32), .int (105 : Int32), .int (115 : Int32), .int (101 : Int32), .int (98 : Int32)]) (lsn := [.ref 46, .int (98 : Int32), .int (101 : Int32), .int (115 : Int32), .int (105 : Int32), .int (100 : Int32), .int (101 : Int32), .int (0 : Int32), .int (0 : Int32)]) (by omega) zo_158_114 zl_158_203 (by rw [zm_155]; rfl) (by rw [zm_155]; exact rfl) (by rw [zm_155]; decide) (by unfold zzIn; rw [zm_155]; rfl) (by rw [zm_155]; exact Nat.le_of_ble_eq_true rfl) (Nat.le_of_ble_eq_true rfl) (G_X7_isWord (by omega) (98 : Int32) (101 : Int32) (115 : Int32) (105 : Int32) (100 : Int32) (101 : Int32) (0 : Int32) (0 : Int32) q7.2 q9 hq9) rfl ?_
          show zzEv _ _ _ _ [.int q9.1] _ _
          by_cases c10 : q9.1 = (0 : Int32)
          · rw [if_pos c10] at h
            refine ev_if_t (t := 125) zo_158_117 rfl (zcm_eq c10) ?_
            refine ev_aload_n zo_158_125 rfl rfl rfl rfl ?_
            refine ev_bipush (x := 102) zo_158_126 (by decide) rfl ?_
            refine ev_bipush (x := 114) zo_158_128 (by decide) rfl ?_
            refine ev_bipush (x := 105) zo_158_130 (by decide) rfl ?_
            refine ev_bipush (x := 101) zo_158_132 (by decide) rfl ?_
            refine ev_bipush (x := 110) zo_158_134 (by decide) rfl ?_
            refine ev_bipush (x := 100) zo_158_136 (by decide) rfl ?_
            refine ev_iconst (x := 0) zo_158_138 (by decide) rfl ?_
            refine ev_iconst (x := 0) zo_158_139 (by decide) rfl ?_
            obtain ⟨q11, hq11, h⟩ := zz_bd h
            refine ev_cV (as := [.int (0 : Int32), .int (0 : Int32), .int (100 : Int32), .int (110 : Int32), .int (101 : Int32), .int (105 : Int32), .int (114 : Int32), .int (102 : Int32)]) (lsn := [.ref 46, .int (102 : Int32), .int (114 : Int32), .int (105 : Int32), .int (101 : Int32), .int (110 : Int32), .int (100 : Int32), .int (0 : Int32), .int (0 : Int32)]) (by omega) zo_158_140 zl_158_203 (by rw [zm_155]; rfl) (by rw [zm_155]; exact rfl) (by rw [zm_155]; decide) (by unfold zzIn; rw [zm_155]; rfl) (by rw [zm_155]; exact Nat.le_of_ble_eq_true rfl) (Nat.le_of_ble_eq_true rfl) (G_X7_isWord (by omega) (102 : Int32) (114 : Int32) (105 : Int32) (101 : Int32) (110 : Int32) (100 : Int32) (0 : Int32) (0 : Int32) q9.2 q11 hq11) rfl ?_
            show zzEv _ _ _ _ [.int q11.1] _ _
            by_cases c12 : q11.1 = (0 : Int32)
            · rw [if_pos c12] at h
              refine ev_if_t (t := 151) zo_158_143 rfl (zcm_eq c12) ?_
              refine ev_aload_n zo_158_151 rfl rfl rfl rfl ?_
              obtain ⟨q13, hq13, h⟩ := zz_bd h
              refine ev_cV (as := []) (lsn := [.ref 46]) (by omega) zo_158_152 zl_158_197 (by rw [zm_153]; rfl) (by rw [zm_153]; exact rfl) (by rw [zm_153]; decide) (by unfold zzIn; rw [zm_153]; rfl) (by rw [zm_153]; exact Nat.le_of_ble_eq_true rfl) (Nat.le_of_ble_eq_true rfl) (G_X7_fail (by omega) q11.2 q13 hq13) rfl ?_
              show zzEv _ _ _ _ [] _ _
              refine ev_iconst (x := 0) zo_158_155 (by decide) rfl ?_
              obtain rfl := Option.some.inj h
              exact ev_retI zo_158_156 zr_158
            rw [if_neg c12] at h
            refine ev_if_f (t := 151) zo_158_143 rfl (zcm_neq c12) rfl ?_
            refine ev_aload_n zo_158_146 rfl rfl rfl rfl ?_
            refine ev_getI zo_158_147 zf_158_222 (by decide) (Or.inl rfl) rfl rfl ?_
            obtain rfl := Option.some.inj h
            exact ev_retI zo_158_150 zr_158
          rw [if_neg c10] at h
          refine ev_if_f (t := 125) zo_158_117 rfl (zcm_neq c10) rfl ?_
          refine ev_aload_n zo_158_120 rfl rfl rfl rfl ?_
          refine ev_getI zo_158_121 zf_158_219 (by decide) (Or.inl rfl) rfl rfl ?_
          obtain rfl := Option.some.inj h
          exact ev_retI zo_158_124 zr_158
        rw [if_neg c8] at h
        refine ev_if_f (t := 99) zo_158_91 rfl (zcm_neq c8) rfl ?_
        refine ev_aload_n zo_158_94 rfl rfl rfl rfl ?_
        refine ev_getI zo_158_95 zf_158_216 (by decide) (Or.inl rfl) rfl rfl ?_
        obtain rfl := Option.some.inj h
        exact ev_retI zo_158_98 zr_158
      rw [if_neg c6] at h
      refine ev_if_f (t := 73) zo_158_65 rfl (zcm_neq c6) rfl ?_
      refine ev_aload_n zo_158_68 rfl rfl rfl rfl ?_
      refine ev_getI zo_158_69 zf_158_213 (by decide) (Or.inl rfl) rfl rfl ?_
      obtain rfl := Option.some.inj h
      exact ev_retI zo_158_72 zr_158
    rw [if_neg c4] at h
    refine ev_if_f (t := 49) zo_158_41 rfl (zcm_neq c4) rfl ?_
    refine ev_aload_n zo_158_44 rfl rfl rfl rfl ?_
    refine ev_getI zo_158_45 zf_158_210 (by decide) (Or.inl rfl) rfl rfl ?_
    obtain rfl := Option.some.inj h
    exact ev_retI zo_158_48 zr_158
  rw [if_neg c2] at h
  refine ev_if_f (t := 23) zo_158_15 rfl (zcm_neq c2) rfl ?_
  refine ev_aload_n zo_158_18 rfl rfl rfl rfl ?_
  refine ev_getI zo_158_19 zf_158_207 (by decide) (Or.inl rfl) rfl rfl ?_
  obtain rfl := Option.some.inj h
  exact ev_retI zo_158_22 zr_158
/-! X7_atom -/
def F_X7_atom_123 (k_X7_atom : zzJ → Option (Int32 × zzJ)) (k_X7_not : zzJ → Option (Int32 × zzJ)) (k_X7_either : zzJ → Option (Int32 × zzJ)) (l1 : Int32) (J : zzJ) : Option (Int32 × zzJ) := (if (J.2 46 28) = (0 : Int32) then (if (J.2 46 24) = (1 : Int32) then (Option.bind (F_X7_name J) fun q5 => (if (q5.2.2 46 28) = (0 : Int32) then (Option.bind (F_X7_next q5.2) fun q7 => some (q5.1, q7)) else some (q5.1, q5.2))) else (Option.bind (F_X7_fail J) fun q4 => some (l1, q4))) else (Option.bind (F_X7_fail J) fun q2 => some (l1, q2)))
set_option maxRecDepth 100000 in
set_option maxHeartbeats 2000000 in
theorem G_X7_atom_123 {D d : Nat} (k_X7_atom : zzJ → Option (Int32 × zzJ)) (k_X7_not : zzJ → Option (Int32 × zzJ)) (k_X7_either : zzJ → Option (Int32 × zzJ)) (hk_X7_atom : ∀ dd, D ≤ dd → ∀ (J : zzJ) (q : Int32 × zzJ), k_X7_atom J = some q → zzEv dd 159 0 [.ref 46, zzU] [] (zK J) (some (.int q.1), zK q.2)) (hk_X7_not : ∀ dd, D ≤ dd → ∀ (J : zzJ) (q : Int32 × zzJ), k_X7_not J = some q → zzEv dd 162 0 [.ref 46, zzU, zzU, zzU] [] (zK J) (some (.int q.1), zK q.2)) (hk_X7_either : ∀ dd, D ≤ dd → ∀ (J : zzJ) (q : Int32 × zzJ), k_X7_either J = some q → zzEv dd 164 0 [.ref 46, zzU, zzU] [] (zK J) (some (.int q.1), zK q.2)) (hd : D + 4 ≤ d) : ∀ (l1 : Int32) (J : zzJ) (r : Int32 × zzJ), F_X7_atom_123 k_X7_atom k_X7_not k_X7_either l1 J = some r → zzEv d 159 123 [.ref 46, .int l1] [] (zK J) (some (.int r.1), zK r.2) := by
  intro l1 J r h
  unfold F_X7_atom_123 at h
  refine ev_aload_n zo_159_123 rfl rfl rfl rfl ?_
  refine ev_getI zo_159_124 zf_159_183 (by decide) (Or.inr rfl) rfl rfl ?_
  by_cases c1 : (J.2 46 28) = (0 : Int32)
  · rw [if_pos c1] at h
    refine ev_if_f (t := 157) zo_159_127 rfl (zcm_nne c1) rfl ?_
    refine ev_aload_n zo_159_130 rfl rfl rfl rfl ?_
    refine ev_getI zo_159_131 zf_159_166 (by decide) (Or.inl rfl) rfl rfl ?_
    refine ev_iconst (x := 1) zo_159_134 (by decide) rfl ?_
    by_cases c3 : (J.2 46 24) = (1 : Int32)
    · rw [if_pos c3] at h
      refine ev_cmp_f (t := 157) zo_159_135 rfl (zcm_nne c3) rfl ?_
      refine ev_aload_n zo_159_138 rfl rfl rfl rfl ?_
      obtain ⟨q5, hq5, h⟩ := zz_bd h
      refine ev_cV (as := []) (lsn := [.ref 46]) (by omega) zo_159_139 zl_159_239 (by rw [zm_158]; rfl) (by rw [zm_158]; exact rfl) (by rw [zm_158]; decide) (by unfold zzIn; rw [zm_158]; rfl) (by rw [zm_158]; exact Nat.le_of_ble_eq_true rfl) (Nat.le_of_ble_eq_true rfl) (G_X7_name (by omega) J q5 hq5) rfl ?_
      show zzEv _ _ _ _ [.int q5.1] _ _
      refine ev_istore_n zo_159_142 rfl (zz_set rfl (by decide) (Nat.le_of_ble_eq_true rfl)) rfl ?_
      show zzEv _ _ _ [.ref 46, .int q5.1] _ _ _
      refine ev_aload_n zo_159_143 rfl rfl rfl rfl ?_
      refine ev_getI zo_159_144 zf_159_183 (by decide) (Or.inr rfl) rfl rfl ?_
      by_cases c6 : (q5.2.2 46 28) = (0 : Int32)
      · rw [if_pos c6] at h
        refine ev_if_f (t := 161) zo_159_147 rfl (zcm_nne c6) rfl ?_
        refine ev_aload_n zo_159_150 rfl rfl rfl rfl ?_
        obtain ⟨q7, hq7, h⟩ := zz_bd h
        refine ev_cV (as := []) (lsn := [.ref 46, zzU, zzU]) (by omega) zo_159_151 zl_159_200 (by rw [zm_152]; rfl) (by rw [zm_152]; exact rfl) (by rw [zm_152]; decide) (by unfold zzIn; rw [zm_152]; rfl) (by rw [zm_152]; exact Nat.le_of_ble_eq_true rfl) (Nat.le_of_ble_eq_true rfl) (G_X7_next (by omega) q5.2 q7 hq7) rfl ?_
        show zzEv _ _ _ _ [] _ _
        refine ev_goto (t := 161) zo_159_154 rfl ?_
        refine ev_iload_n zo_159_161 rfl rfl rfl ?_
        obtain rfl := Option.some.inj h
        exact ev_retI zo_159_162 zr_159
      rw [if_neg c6] at h
      refine ev_if_t (t := 161) zo_159_147 rfl (zcm_ne c6) ?_
      refine ev_iload_n zo_159_161 rfl rfl rfl ?_
      obtain rfl := Option.some.inj h
      exact ev_retI zo_159_162 zr_159
    rw [if_neg c3] at h
    refine ev_cmp_t (t := 157) zo_159_135 rfl (zcm_ne c3) ?_
    refine ev_aload_n zo_159_157 rfl rfl rfl rfl ?_
    obtain ⟨q4, hq4, h⟩ := zz_bd h
    refine ev_cV (as := []) (lsn := [.ref 46]) (by omega) zo_159_158 zl_159_197 (by rw [zm_153]; rfl) (by rw [zm_153]; exact rfl) (by rw [zm_153]; decide) (by unfold zzIn; rw [zm_153]; rfl) (by rw [zm_153]; exact Nat.le_of_ble_eq_true rfl) (Nat.le_of_ble_eq_true rfl) (G_X7_fail (by omega) J q4 hq4) rfl ?_
    show zzEv _ _ _ _ [] _ _
    refine ev_iload_n zo_159_161 rfl rfl rfl ?_
    obtain rfl := Option.some.inj h
    exact ev_retI zo_159_162 zr_159
  rw [if_neg c1] at h
  refine ev_if_t (t := 157) zo_159_127 rfl (zcm_ne c1) ?_
  refine ev_aload_n zo_159_157 rfl rfl rfl rfl ?_
  obtain ⟨q2, hq2, h⟩ := zz_bd h
  refine ev_cV (as := []) (lsn := [.ref 46]) (by omega) zo_159_158 zl_159_197 (by rw [zm_153]; rfl) (by rw [zm_153]; exact rfl) (by rw [zm_153]; decide) (by unfold zzIn; rw [zm_153]; rfl) (by rw [zm_153]; exact Nat.le_of_ble_eq_true rfl) (Nat.le_of_ble_eq_true rfl) (G_X7_fail (by omega) J q2 hq2) rfl ?_
  show zzEv _ _ _ _ [] _ _
  refine ev_iload_n zo_159_161 rfl rfl rfl ?_
  obtain rfl := Option.some.inj h
  exact ev_retI zo_159_162 zr_159
def F_X7_atom_71 (k_X7_atom : zzJ → Option (Int32 × zzJ)) (k_X7_not : zzJ → Option (Int32 × zzJ)) (k_X7_either : zzJ → Option (Int32 × zzJ)) (l1 : Int32) (J : zzJ) : Option (Int32 × zzJ) := (if ((wI J 46 27 ((J.2 46 27) - (1 : Int32))).2 46 28) = (0 : Int32) then (Option.bind (F_X7_next (wI J 46 27 ((J.2 46 27) - (1 : Int32)))) fun q9 => some (l1, q9)) else some (l1, (wI J 46 27 ((J.2 46 27) - (1 : Int32)))))
set_option maxRecDepth 100000 in
set_option maxHeartbeats 2000000 in
theorem G_X7_atom_71 {D d : Nat} (k_X7_atom : zzJ → Option (Int32 × zzJ)) (k_X7_not : zzJ → Option (Int32 × zzJ)) (k_X7_either : zzJ → Option (Int32 × zzJ)) (hk_X7_atom : ∀ dd, D ≤ dd → ∀ (J : zzJ) (q : Int32 × zzJ), k_X7_atom J = some q → zzEv dd 159 0 [.ref 46, zzU] [] (zK J) (some (.int q.1), zK q.2)) (hk_X7_not : ∀ dd, D ≤ dd → ∀ (J : zzJ) (q : Int32 × zzJ), k_X7_not J = some q → zzEv dd 162 0 [.ref 46, zzU, zzU, zzU] [] (zK J) (some (.int q.1), zK q.2)) (hk_X7_either : ∀ dd, D ≤ dd → ∀ (J : zzJ) (q : Int32 × zzJ), k_X7_either J = some q → zzEv dd 164 0 [.ref 46, zzU, zzU] [] (zK J) (some (.int q.1), zK q.2)) (hd : D + 4 ≤ d) : ∀ (l1 : Int32) (J : zzJ) (r : Int32 × zzJ), F_X7_atom_71 k_X7_atom k_X7_not k_X7_either l1 J = some r → zzEv d 159 71 [.ref 46, .int l1] [] (zK J) (some (.int r.1), zK r.2) := by
  intro l1 J r h
  unfold F_X7_atom_71 at h
  refine ev_aload_n zo_159_71 rfl rfl rfl rfl ?_
  refine ev_dup zo_159_72 rfl rfl ?_
  refine ev_getI zo_159_73 zf_159_194 (by decide) (Or.inl rfl) rfl rfl ?_
  refine ev_iconst (x := 1) zo_159_76 (by decide) rfl ?_
  refine ev_isub zo_159_77 rfl ?_
  refine ev_putI zo_159_78 zf_159_194 (by decide) rfl rfl rfl rfl ?_
  refine ev_aload_n zo_159_81 rfl rfl rfl rfl ?_
  refine ev_getI zo_159_82 zf_159_183 (by decide) (Or.inr rfl) rfl rfl ?_
  by_cases c8 : ((wI J 46 27 ((J.2 46 27) - (1 : Int32))).2 46 28) = (0 : Int32)
  · rw [if_pos c8] at h
    refine ev_if_f (t := 161) zo_159_85 rfl (zcm_nne c8) rfl ?_
    refine ev_aload_n zo_159_88 rfl rfl rfl rfl ?_
    obtain ⟨q9, hq9, h⟩ := zz_bd h
    refine ev_cV (as := []) (lsn := [.ref 46, zzU, zzU]) (by omega) zo_159_89 zl_159_200 (by rw [zm_152]; rfl) (by rw [zm_152]; exact rfl) (by rw [zm_152]; decide) (by unfold zzIn; rw [zm_152]; rfl) (by rw [zm_152]; exact Nat.le_of_ble_eq_true rfl) (Nat.le_of_ble_eq_true rfl) (G_X7_next (by omega) (wI J 46 27 ((J.2 46 27) - (1 : Int32))) q9 hq9) rfl ?_
    show zzEv _ _ _ _ [] _ _
    refine ev_goto (t := 161) zo_159_92 rfl ?_
    refine ev_iload_n zo_159_161 rfl rfl rfl ?_
    obtain rfl := Option.some.inj h
    exact ev_retI zo_159_162 zr_159
  rw [if_neg c8] at h
  refine ev_if_t (t := 161) zo_159_85 rfl (zcm_ne c8) ?_
  refine ev_iload_n zo_159_161 rfl rfl rfl ?_
  obtain rfl := Option.some.inj h
  exact ev_retI zo_159_162 zr_159
def F_X7_atom (k_X7_atom : zzJ → Option (Int32 × zzJ)) (k_X7_not : zzJ → Option (Int32 × zzJ)) (k_X7_either : zzJ → Option (Int32 × zzJ)) (J : zzJ) : Option (Int32 × zzJ) := (Option.bind (F_X7_isSign (45 : Int32) J) fun q10 => (if q10.1 = (0 : Int32) then (Option.bind (F_X7_isSign (40 : Int32) q10.2) fun q12 => (if q12.1 = (0 : Int32) then (if (q12.2.2 46 28) = (0 : Int32) then (if (q12.2.2 46 24) = (2 : Int32) then (Option.bind (F_X7_next q12.2) fun q16 => some ((q12.2.1 46 26).toInt32, q16)) else F_X7_atom_123 k_X7_atom k_X7_not k_X7_either (0 : Int32) q12.2) else F_X7_atom_123 k_X7_atom k_X7_not k_X7_either (0 : Int32) q12.2) else (Option.bind (F_X7_opens q12.2) fun q17 => (if q17.1 = (0 : Int32) then some ((0 : Int32), q17.2) else (Option.bind (k_X7_either q17.2) fun q19 => (Option.bind (F_X7_isSign (41 : Int32) q19.2) fun q20 => (if q20.1 = (0 : Int32) then (Option.bind (F_X7_fail q20.2) fun q22 => F_X7_atom_71 k_X7_atom k_X7_not k_X7_either q19.1 q22) else F_X7_atom_71 k_X7_atom k_X7_not k_X7_either q19.1 q20.2))))))) else (Option.bind (F_X7_opens q10.2) fun q23 => (if q23.1 = (0 : Int32) then some ((0 : Int32), q23.2) else (Option.bind (k_X7_atom q23.2) fun q25 => some ((-q25.1), (wI q25.2 46 27 ((q25.2.2 46 27) - (1 : Int32)))))))))
set_option maxRecDepth 100000 in
set_option maxHeartbeats 2000000 in
theorem G_X7_atom {D d : Nat} (k_X7_atom : zzJ → Option (Int32 × zzJ)) (k_X7_not : zzJ → Option (Int32 × zzJ)) (k_X7_either : zzJ → Option (Int32 × zzJ)) (hk_X7_atom : ∀ dd, D ≤ dd → ∀ (J : zzJ) (q : Int32 × zzJ), k_X7_atom J = some q → zzEv dd 159 0 [.ref 46, zzU] [] (zK J) (some (.int q.1), zK q.2)) (hk_X7_not : ∀ dd, D ≤ dd → ∀ (J : zzJ) (q : Int32 × zzJ), k_X7_not J = some q → zzEv dd 162 0 [.ref 46, zzU, zzU, zzU] [] (zK J) (some (.int q.1), zK q.2)) (hk_X7_either : ∀ dd, D ≤ dd → ∀ (J : zzJ) (q : Int32 × zzJ), k_X7_either J = some q → zzEv dd 164 0 [.ref 46, zzU, zzU] [] (zK J) (some (.int q.1), zK q.2)) (hd : D + 4 ≤ d) (J : zzJ) (r : Int32 × zzJ) (h : F_X7_atom k_X7_atom k_X7_not k_X7_either J = some r) : zzEv d 159 0 [.ref 46, zzU] [] (zK J) (some (.int r.1), zK r.2) := by
  unfold F_X7_atom at h
  refine ev_iconst (x := 0) zo_159_0 (by decide) rfl ?_
  refine ev_istore_n zo_159_1 rfl (zz_set rfl (by decide) (Nat.le_of_ble_eq_true rfl)) rfl ?_
  show zzEv _ _ _ [.ref 46, .int (0 : Int32)] _ _ _
  refine ev_aload_n zo_159_2 rfl rfl rfl rfl ?_
  refine ev_bipush (x := 45) zo_159_3 (by decide) rfl ?_
  obtain ⟨q10, hq10, h⟩ := zz_bd h
  refine ev_cV (as := [.int (45 : Int32)]) (lsn := [.ref 46, .int (45 : Int32)]) (by omega) zo_159_5 zl_159_225 (by rw [zm_156]; rfl) (by rw [zm_156]; exact rfl) (by rw [zm_156]; decide) (by unfold zzIn; rw [zm_156]; rfl) (by rw [zm_156]; exact Nat.le_of_ble_eq_true rfl) (Nat.le_of_ble_eq_true rfl) (G_X7_isSign (by omega) (45 : Int32) J q10 hq10) rfl ?_
  show zzEv _ _ _ _ [.int q10.1] _ _
  by_cases c11 : q10.1 = (0 : Int32)
  · rw [if_pos c11] at h
    refine ev_if_t (t := 37) zo_159_8 rfl (zcm_eq c11) ?_
    refine ev_aload_n zo_159_37 rfl rfl rfl rfl ?_
    refine ev_bipush (x := 40) zo_159_38 (by decide) rfl ?_
    obtain ⟨q12, hq12, h⟩ := zz_bd h
    refine ev_cV (as := [.int (40 : Int32)]) (lsn := [.ref 46, .int (40 : Int32)]) (by omega) zo_159_40 zl_159_225 (by rw [zm_156]; rfl) (by rw [zm_156]; exact rfl) (by rw [zm_156]; decide) (by unfold zzIn; rw [zm_156]; rfl) (by rw [zm_156]; exact Nat.le_of_ble_eq_true rfl) (Nat.le_of_ble_eq_true rfl) (G_X7_isSign (by omega) (40 : Int32) q10.2 q12 hq12) rfl ?_
    show zzEv _ _ _ _ [.int q12.1] _ _
    by_cases c13 : q12.1 = (0 : Int32)
    · rw [if_pos c13] at h
      refine ev_if_t (t := 95) zo_159_43 rfl (zcm_eq c13) ?_
      refine ev_aload_n zo_159_95 rfl rfl rfl rfl ?_
      refine ev_getI zo_159_96 zf_159_183 (by decide) (Or.inr rfl) rfl rfl ?_
      by_cases c14 : (q12.2.2 46 28) = (0 : Int32)
      · rw [if_pos c14] at h
        refine ev_if_f (t := 123) zo_159_99 rfl (zcm_nne c14) rfl ?_
        refine ev_aload_n zo_159_102 rfl rfl rfl rfl ?_
        refine ev_getI zo_159_103 zf_159_166 (by decide) (Or.inl rfl) rfl rfl ?_
        refine ev_iconst (x := 2) zo_159_106 (by decide) rfl ?_
        by_cases c15 : (q12.2.2 46 24) = (2 : Int32)
        · rw [if_pos c15] at h
          refine ev_cmp_f (t := 123) zo_159_107 rfl (zcm_nne c15) rfl ?_
          refine ev_aload_n zo_159_110 rfl rfl rfl rfl ?_
          refine ev_getL zo_159_111 zf_159_177 (by decide) rfl rfl rfl ?_
          refine ev_l2i zo_159_114 rfl ?_
          refine ev_istore_n zo_159_115 rfl (zz_set rfl (by decide) (Nat.le_of_ble_eq_true rfl)) rfl ?_
          show zzEv _ _ _ [.ref 46, .int (q12.2.1 46 26).toInt32] _ _ _
          refine ev_aload_n zo_159_116 rfl rfl rfl rfl ?_
          obtain ⟨q16, hq16, h⟩ := zz_bd h
          refine ev_cV (as := []) (lsn := [.ref 46, zzU, zzU]) (by omega) zo_159_117 zl_159_200 (by rw [zm_152]; rfl) (by rw [zm_152]; exact rfl) (by rw [zm_152]; decide) (by unfold zzIn; rw [zm_152]; rfl) (by rw [zm_152]; exact Nat.le_of_ble_eq_true rfl) (Nat.le_of_ble_eq_true rfl) (G_X7_next (by omega) q12.2 q16 hq16) rfl ?_
          show zzEv _ _ _ _ [] _ _
          refine ev_goto (t := 161) zo_159_120 rfl ?_
          refine ev_iload_n zo_159_161 rfl rfl rfl ?_
          obtain rfl := Option.some.inj h
          exact ev_retI zo_159_162 zr_159
        rw [if_neg c15] at h
        refine ev_cmp_t (t := 123) zo_159_107 rfl (zcm_ne c15) ?_
        exact G_X7_atom_123 k_X7_atom k_X7_not k_X7_either hk_X7_atom hk_X7_not hk_X7_either hd (0 : Int32) q12.2 r h
      rw [if_neg c14] at h
      refine ev_if_t (t := 123) zo_159_99 rfl (zcm_ne c14) ?_
      exact G_X7_atom_123 k_X7_atom k_X7_not k_X7_either hk_X7_atom hk_X7_not hk_X7_either hd (0 : Int32) q12.2 r h
    rw [if_neg c13] at h
    refine ev_if_f (t := 95) zo_159_43 rfl (zcm_neq c13) rfl ?_
    refine ev_aload_n zo_159_46 rfl rfl rfl rfl ?_
    obtain ⟨q17, hq17, h⟩ := zz_bd h
    refine ev_cV (as := []) (lsn := [.ref 46]) (by omega) zo_159_47 zl_159_228 (by rw [zm_157]; rfl) (by rw [zm_157]; exact rfl) (by rw [zm_157]; decide) (by unfold zzIn; rw [zm_157]; rfl) (by rw [zm_157]; exact Nat.le_of_ble_eq_true rfl) (Nat.le_of_ble_eq_true rfl) (G_X7_opens (by omega) q12.2 q17 hq17) rfl ?_
    show zzEv _ _ _ _ [.int q17.1] _ _
    by_cases c18 : q17.1 = (0 : Int32)
    · rw [if_pos c18] at h
      refine ev_if_t (t := 161) zo_159_50 rfl (zcm_eq c18) ?_
      refine ev_iload_n zo_159_161 rfl rfl rfl ?_
      obtain rfl := Option.some.inj h
      exact ev_retI zo_159_162 zr_159
    rw [if_neg c18] at h
    refine ev_if_f (t := 161) zo_159_50 rfl (zcm_neq c18) rfl ?_
    refine ev_aload_n zo_159_53 rfl rfl rfl rfl ?_
    obtain ⟨q19, hq19, h⟩ := zz_bd h
    refine ev_cV (as := []) (lsn := [.ref 46, zzU, zzU]) (by omega) zo_159_54 zl_159_236 (by rw [zm_164]; rfl) (by rw [zm_164]; exact rfl) (by rw [zm_164]; decide) (by unfold zzIn; rw [zm_164]; rfl) (by rw [zm_164]; exact Nat.le_of_ble_eq_true rfl) (Nat.le_of_ble_eq_true rfl) (hk_X7_either _ (by omega) q17.2 q19 hq19) rfl ?_
    show zzEv _ _ _ _ [.int q19.1] _ _
    refine ev_istore_n zo_159_57 rfl (zz_set rfl (by decide) (Nat.le_of_ble_eq_true rfl)) rfl ?_
    show zzEv _ _ _ [.ref 46, .int q19.1] _ _ _
    refine ev_aload_n zo_159_58 rfl rfl rfl rfl ?_
    refine ev_bipush (x := 41) zo_159_59 (by decide) rfl ?_
    obtain ⟨q20, hq20, h⟩ := zz_bd h
    refine ev_cV (as := [.int (41 : Int32)]) (lsn := [.ref 46, .int (41 : Int32)]) (by omega) zo_159_61 zl_159_225 (by rw [zm_156]; rfl) (by rw [zm_156]; exact rfl) (by rw [zm_156]; decide) (by unfold zzIn; rw [zm_156]; rfl) (by rw [zm_156]; exact Nat.le_of_ble_eq_true rfl) (Nat.le_of_ble_eq_true rfl) (G_X7_isSign (by omega) (41 : Int32) q19.2 q20 hq20) rfl ?_
    show zzEv _ _ _ _ [.int q20.1] _ _
    by_cases c21 : q20.1 = (0 : Int32)
    · rw [if_pos c21] at h
      refine ev_if_f (t := 71) zo_159_64 rfl (zcm_nne c21) rfl ?_
      refine ev_aload_n zo_159_67 rfl rfl rfl rfl ?_
      obtain ⟨q22, hq22, h⟩ := zz_bd h
      refine ev_cV (as := []) (lsn := [.ref 46]) (by omega) zo_159_68 zl_159_197 (by rw [zm_153]; rfl) (by rw [zm_153]; exact rfl) (by rw [zm_153]; decide) (by unfold zzIn; rw [zm_153]; rfl) (by rw [zm_153]; exact Nat.le_of_ble_eq_true rfl) (Nat.le_of_ble_eq_true rfl) (G_X7_fail (by omega) q20.2 q22 hq22) rfl ?_
      show zzEv _ _ _ _ [] _ _
      exact G_X7_atom_71 k_X7_atom k_X7_not k_X7_either hk_X7_atom hk_X7_not hk_X7_either hd q19.1 q22 r h
    rw [if_neg c21] at h
    refine ev_if_t (t := 71) zo_159_64 rfl (zcm_ne c21) ?_
    exact G_X7_atom_71 k_X7_atom k_X7_not k_X7_either hk_X7_atom hk_X7_not hk_X7_either hd q19.1 q20.2 r h
  rw [if_neg c11] at h
  refine ev_if_f (t := 37) zo_159_8 rfl (zcm_neq c11) rfl ?_
  refine ev_aload_n zo_159_11 rfl rfl rfl rfl ?_
  obtain ⟨q23, hq23, h⟩ := zz_bd h
  refine ev_cV (as := []) (lsn := [.ref 46]) (by omega) zo_159_12 zl_159_228 (by rw [zm_157]; rfl) (by rw [zm_157]; exact rfl) (by rw [zm_157]; decide) (by unfold zzIn; rw [zm_157]; rfl) (by rw [zm_157]; exact Nat.le_of_ble_eq_true rfl) (Nat.le_of_ble_eq_true rfl) (G_X7_opens (by omega) q10.2 q23 hq23) rfl ?_
  show zzEv _ _ _ _ [.int q23.1] _ _
  by_cases c24 : q23.1 = (0 : Int32)
  · rw [if_pos c24] at h
    refine ev_if_t (t := 161) zo_159_15 rfl (zcm_eq c24) ?_
    refine ev_iload_n zo_159_161 rfl rfl rfl ?_
    obtain rfl := Option.some.inj h
    exact ev_retI zo_159_162 zr_159
  rw [if_neg c24] at h
  refine ev_if_f (t := 161) zo_159_15 rfl (zcm_neq c24) rfl ?_
  refine ev_aload_n zo_159_18 rfl rfl rfl rfl ?_
  obtain ⟨q25, hq25, h⟩ := zz_bd h
  refine ev_cV (as := []) (lsn := [.ref 46, zzU]) (by omega) zo_159_19 zl_159_232 (by rw [zm_159]; rfl) (by rw [zm_159]; exact rfl) (by rw [zm_159]; decide) (by unfold zzIn; rw [zm_159]; rfl) (by rw [zm_159]; exact Nat.le_of_ble_eq_true rfl) (Nat.le_of_ble_eq_true rfl) (hk_X7_atom _ (by omega) q23.2 q25 hq25) rfl ?_
  show zzEv _ _ _ _ [.int q25.1] _ _
  refine ev_ineg zo_159_22 rfl ?_
  refine ev_istore_n zo_159_23 rfl (zz_set rfl (by decide) (Nat.le_of_ble_eq_true rfl)) rfl ?_
  show zzEv _ _ _ [.ref 46, .int (-q25.1)] _ _ _
  refine ev_aload_n zo_159_24 rfl rfl rfl rfl ?_
  refine ev_dup zo_159_25 rfl rfl ?_
  refine ev_getI zo_159_26 zf_159_194 (by decide) (Or.inl rfl) rfl rfl ?_
  refine ev_iconst (x := 1) zo_159_29 (by decide) rfl ?_
  refine ev_isub zo_159_30 rfl ?_
  refine ev_putI zo_159_31 zf_159_194 (by decide) rfl rfl rfl rfl ?_
  refine ev_goto (t := 161) zo_159_34 rfl ?_
  refine ev_iload_n zo_159_161 rfl rfl rfl ?_
  obtain rfl := Option.some.inj h
  exact ev_retI zo_159_162 zr_159
