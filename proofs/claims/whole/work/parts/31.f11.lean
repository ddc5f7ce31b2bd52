/-! the methods as functions, and that they are (written by wip/whole/gen2.py) -/
/-! X7_sheet -/
def F_X7_sheet_77 : Nat → Int32 → Int32 → Int32 → Int32 → zzJ → Option (Int32 × zzJ)
  | 0, _, _, _, _, _ => none
  | n + 1, l1, l2, l3, l4, J => (if l4 < l3 then (if l2 < (0 : Int32) then some ((1 : Int32), J) else (if zzIx (((40 : Int32) * l1) + l4) 160 then F_X7_sheet_77 n l1 l2 l3 (l4 + 1) (wI J 65 (((40 : Int32) * l1) + l4).toNatClampNeg (0 : Int32)) else none)) else some ((1 : Int32), J))
set_option maxRecDepth 100000 in
set_option maxHeartbeats 2000000 in
theorem G_X7_sheet_77 {d : Nat} (hd : 2 ≤ d) : ∀ (n : Nat) (l1 : Int32) (l2 : Int32) (l3 : Int32) (l4 : Int32) (J : zzJ) (r : Int32 × zzJ), F_X7_sheet_77 n l1 l2 l3 l4 J = some r → zzEv d 207 77 [.ref 46, .int l1, .int l2, .int l3, .int l4] [] (zK J) (some (.int r.1), zK r.2) := by
  intro n
  induction n with
  | zero => intro l1 l2 l3 l4 J r h; simp [F_X7_sheet_77] at h
  | succ n ih =>
    intro l1 l2 l3 l4 J r h
    rw [F_X7_sheet_77] at h
    refine ev_iload zo_207_77 rfl rfl ?_
    refine ev_iload_n zo_207_79 rfl rfl rfl ?_
    by_cases c1 : l4 < l3
    · rw [if_pos c1] at h
      refine ev_cmp_f (t := 106) zo_207_80 rfl (zcm_nge c1) rfl ?_
      refine ev_iload_n zo_207_83 rfl rfl rfl ?_
      by_cases c2 : l2 < (0 : Int32)
      · rw [if_pos c2] at h
        refine ev_if_t (t := 106) zo_207_84 rfl (zcm_lt c2) ?_
        refine ev_iconst (x := 1) zo_207_106 (by decide) rfl ?_
        obtain rfl := Option.some.inj h
        exact ev_retI zo_207_107 zr_207
      rw [if_neg c2] at h
      refine ev_if_f (t := 106) zo_207_84 rfl (zcm_nlt c2) rfl ?_
      refine ev_aload_n zo_207_87 rfl rfl rfl rfl ?_
      refine ev_getR zo_207_88 zf_207_75 (by decide) rfl rfl rfl rfl ?_
      refine ev_bipush (x := 40) zo_207_91 (by decide) rfl ?_
      refine ev_iload_n zo_207_93 rfl rfl rfl ?_
      refine ev_imul zo_207_94 rfl ?_
      refine ev_iload zo_207_95 rfl rfl ?_
      refine ev_iadd zo_207_97 rfl ?_
      refine ev_iconst (x := 0) zo_207_98 (by decide) rfl ?_
      obtain ⟨c3, h⟩ := zz_chk h
      refine ev_iast zo_207_99 rfl c3 rfl ?_
      refine ev_iinc (v := 1) zo_207_100 rfl (by decide) (zz_set rfl (by decide) (Nat.le_of_ble_eq_true rfl)) rfl ?_
      show zzEv _ _ _ [.ref 46, .int l1, .int l2, .int l3, .int (l4 + 1)] _ _ _
      refine ev_goto (t := 77) zo_207_103 rfl ?_
      exact ih l1 l2 l3 (l4 + 1) (wI J 65 (((40 : Int32) * l1) + l4).toNatClampNeg (0 : Int32)) r h
    rw [if_neg c1] at h
    refine ev_cmp_t (t := 106) zo_207_80 rfl (zcm_ge c1) ?_
    refine ev_iconst (x := 1) zo_207_106 (by decide) rfl ?_
    obtain rfl := Option.some.inj h
    exact ev_retI zo_207_107 zr_207
def F_X7_sheet_59 (l1 : Int32) (l2 : Int32) (l3 : Int32) (t0 : Int32) (t1 : Int32) (J : zzJ) : Option (Int32 × zzJ) := (if zzIx t1 4 then (if t0 = 0 ∨ t0 = 1 then (if zzIx l1 4 then (if zzIx l1 4 then F_X7_sheet_77 4096 l1 l2 l3 (0 : Int32) (wI (wI (wI J 62 t1.toNatClampNeg t0) 63 l1.toNatClampNeg l2) 64 l1.toNatClampNeg l3) else none) else none) else none) else none)
set_option maxRecDepth 100000 in
set_option maxHeartbeats 2000000 in
theorem G_X7_sheet_59 {d : Nat} (hd : 2 ≤ d) : ∀ (l1 : Int32) (l2 : Int32) (l3 : Int32) (t0 : Int32) (t1 : Int32) (J : zzJ) (r : Int32 × zzJ), F_X7_sheet_59 l1 l2 l3 t0 t1 J = some r → zzEv d 207 59 [.ref 46, .int l1, .int l2, .int l3, zzU] [.int t0, .int t1, .ref 62] (zK J) (some (.int r.1), zK r.2) := by
  intro l1 l2 l3 t0 t1 J r h
  unfold F_X7_sheet_59 at h
  obtain ⟨c4, h⟩ := zz_chk h
  obtain ⟨c5, h⟩ := zz_chk h
  refine ev_bast zo_207_59 rfl c4 c5 rfl ?_
  refine ev_aload_n zo_207_60 rfl rfl rfl rfl ?_
  refine ev_getR zo_207_61 zf_207_69 (by decide) rfl rfl rfl rfl ?_
  refine ev_iload_n zo_207_64 rfl rfl rfl ?_
  refine ev_iload_n zo_207_65 rfl rfl rfl ?_
  obtain ⟨c6, h⟩ := zz_chk h
  refine ev_iast zo_207_66 rfl c6 rfl ?_
  refine ev_aload_n zo_207_67 rfl rfl rfl rfl ?_
  refine ev_getR zo_207_68 zf_207_72 (by decide) rfl rfl rfl rfl ?_
  refine ev_iload_n zo_207_71 rfl rfl rfl ?_
  refine ev_iload_n zo_207_72 rfl rfl rfl ?_
  obtain ⟨c7, h⟩ := zz_chk h
  refine ev_iast zo_207_73 rfl c7 rfl ?_
  refine ev_iconst (x := 0) zo_207_74 (by decide) rfl ?_
  refine ev_istore zo_207_75 (zz_set rfl (by decide) (Nat.le_of_ble_eq_true rfl)) rfl ?_
  show zzEv _ _ _ [.ref 46, .int l1, .int l2, .int l3, .int (0 : Int32)] _ _ _
  exact G_X7_sheet_77 hd 4096 l1 l2 l3 (0 : Int32) (wI (wI (wI J 62 t1.toNatClampNeg t0) 63 l1.toNatClampNeg l2) 64 l1.toNatClampNeg l3) r h
def F_X7_sheet_45 (l1 : Int32) (l2 : Int32) (l3 : Int32) (J : zzJ) : Option (Int32 × zzJ) := (if l2 < (0 : Int32) then F_X7_sheet_59 l1 l2 l3 (0 : Int32) l1 J else F_X7_sheet_59 l1 l2 l3 (1 : Int32) l1 J)
set_option maxRecDepth 100000 in
set_option maxHeartbeats 2000000 in
theorem G_X7_sheet_45 {d : Nat} (hd : 2 ≤ d) : ∀ (l1 : Int32) (l2 : Int32) (l3 : Int32) (J : zzJ) (r : Int32 × zzJ), F_X7_sheet_45 l1 l2 l3 J = some r → zzEv d 207 45 [.ref 46, .int l1, .int l2, .int l3, zzU] [] (zK J) (some (.int r.1), zK r.2) := by
  intro l1 l2 l3 J r h
  unfold F_X7_sheet_45 at h
  refine ev_aload_n zo_207_45 rfl rfl rfl rfl ?_
  refine ev_getR zo_207_46 zf_207_65 (by decide) rfl rfl rfl rfl ?_
  refine ev_iload_n zo_207_49 rfl rfl rfl ?_
  refine ev_iload_n zo_207_50 rfl rfl rfl ?_
  by_cases c8 : l2 < (0 : Int32)
  · rw [if_pos c8] at h
    refine ev_if_t (t := 58) zo_207_51 rfl (zcm_lt c8) ?_
    refine ev_iconst (x := 0) zo_207_58 (by decide) rfl ?_
    exact G_X7_sheet_59 hd l1 l2 l3 (0 : Int32) l1 J r h
  rw [if_neg c8] at h
  refine ev_if_f (t := 58) zo_207_51 rfl (zcm_nlt c8) rfl ?_
  refine ev_iconst (x := 1) zo_207_54 (by decide) rfl ?_
  refine ev_goto (t := 59) zo_207_55 rfl ?_
  exact G_X7_sheet_59 hd l1 l2 l3 (1 : Int32) l1 J r h
def F_X7_sheet_34 (l1 : Int32) (l2 : Int32) (l3 : Int32) (J : zzJ) : Option (Int32 × zzJ) := (if l2 < (0 : Int32) then F_X7_sheet_45 l1 l2 l3 J else (if l3 < (0 : Int32) then some ((-14 : Int32), J) else F_X7_sheet_45 l1 l2 l3 J))
set_option maxRecDepth 100000 in
set_option maxHeartbeats 2000000 in
theorem G_X7_sheet_34 {d : Nat} (hd : 2 ≤ d) : ∀ (l1 : Int32) (l2 : Int32) (l3 : Int32) (J : zzJ) (r : Int32 × zzJ), F_X7_sheet_34 l1 l2 l3 J = some r → zzEv d 207 34 [.ref 46, .int l1, .int l2, .int l3, zzU] [] (zK J) (some (.int r.1), zK r.2) := by
  intro l1 l2 l3 J r h
  unfold F_X7_sheet_34 at h
  refine ev_iload_n zo_207_34 rfl rfl rfl ?_
  by_cases c9 : l2 < (0 : Int32)
  · rw [if_pos c9] at h
    refine ev_if_t (t := 45) zo_207_35 rfl (zcm_lt c9) ?_
    exact G_X7_sheet_45 hd l1 l2 l3 J r h
  rw [if_neg c9] at h
  refine ev_if_f (t := 45) zo_207_35 rfl (zcm_nlt c9) rfl ?_
  refine ev_iload_n zo_207_38 rfl rfl rfl ?_
  by_cases c10 : l3 < (0 : Int32)
  · rw [if_pos c10] at h
    refine ev_if_f (t := 45) zo_207_39 rfl (zcm_nge c10) rfl ?_
    refine ev_bipush (x := (-14)) zo_207_42 (by decide) rfl ?_
    obtain rfl := Option.some.inj h
    exact ev_retI zo_207_44 zr_207
  rw [if_neg c10] at h
  refine ev_if_t (t := 45) zo_207_39 rfl (zcm_ge c10) ?_
  exact G_X7_sheet_45 hd l1 l2 l3 J r h
def F_X7_sheet (x1 : Int32) (x2 : Int32) (x3 : Int32) (J : zzJ) : Option (Int32 × zzJ) := (Option.bind (F_X7_isSheet x1 J) fun q11 => (if q11.1 = (0 : Int32) then some ((-2 : Int32), q11.2) else (Option.bind (F_X7_in x2.toInt64 (-1 : Int64) (2 : Int64) q11.2) fun q13 => (if q13.1 = (0 : Int32) then some ((-2 : Int32), q13.2) else (if x2 < (0 : Int32) then F_X7_sheet_34 x1 x2 x3 q13.2 else (if (40 : Int32) < x3 then some ((-2 : Int32), q13.2) else F_X7_sheet_34 x1 x2 x3 q13.2))))))
set_option maxRecDepth 100000 in
set_option maxHeartbeats 2000000 in
theorem G_X7_sheet {d : Nat} (hd : 2 ≤ d) (x1 : Int32) (x2 : Int32) (x3 : Int32) (J : zzJ) (r : Int32 × zzJ) (h : F_X7_sheet x1 x2 x3 J = some r) : zzEv d 207 0 [.ref 46, .int x1, .int x2, .int x3, zzU] [] (zK J) (some (.int r.1), zK r.2) := by
  unfold F_X7_sheet at h
  refine ev_iload_n zo_207_0 rfl rfl rfl ?_
  obtain ⟨q11, hq11, h⟩ := zz_bd h
  refine ev_cS (as := [.int x1]) (lsn := [.int x1]) (by omega) zo_207_1 zl_207_334 (by decide) (by rw [zm_206]; rfl) (by unfold zzIn; rw [zm_206]; rfl) (by rw [zm_206]; exact Nat.le_of_ble_eq_true rfl) (Nat.le_of_ble_eq_true rfl) (G_X7_isSheet (by omega) x1 J q11 hq11) rfl ?_
  show zzEv _ _ _ _ [.int q11.1] _ _
  by_cases c12 : q11.1 = (0 : Int32)
  · rw [if_pos c12] at h
    refine ev_if_t (t := 31) zo_207_4 rfl (zcm_eq c12) ?_
    refine ev_bipush (x := (-2)) zo_207_31 (by decide) rfl ?_
    obtain rfl := Option.some.inj h
    exact ev_retI zo_207_33 zr_207
  rw [if_neg c12] at h
  refine ev_if_f (t := 31) zo_207_4 rfl (zcm_neq c12) rfl ?_
  refine ev_iload_n zo_207_7 rfl rfl rfl ?_
  refine ev_i2l zo_207_8 rfl ?_
  refine ev_ldc2 zo_207_9 zc_207_376 rfl ?_
  refine ev_ldc2 zo_207_12 zc_207_284 rfl ?_
  obtain ⟨q13, hq13, h⟩ := zz_bd h
  refine ev_cS (as := [.long (2 : Int64), .long (-1 : Int64), .long x2.toInt64]) (lsn := [.long x2.toInt64, zzU, .long (-1 : Int64), zzU, .long (2 : Int64), zzU]) (by omega) zo_207_15 zl_207_88 (by decide) (by rw [zm_136]; rfl) (by unfold zzIn; rw [zm_136]; rfl) (by rw [zm_136]; exact Nat.le_of_ble_eq_true rfl) (Nat.le_of_ble_eq_true rfl) (G_X7_in (by omega) x2.toInt64 (-1 : Int64) (2 : Int64) q11.2 q13 hq13) rfl ?_
  show zzEv _ _ _ _ [.int q13.1] _ _
  by_cases c14 : q13.1 = (0 : Int32)
  · rw [if_pos c14] at h
    refine ev_if_t (t := 31) zo_207_18 rfl (zcm_eq c14) ?_
    refine ev_bipush (x := (-2)) zo_207_31 (by decide) rfl ?_
    obtain rfl := Option.some.inj h
    exact ev_retI zo_207_33 zr_207
  rw [if_neg c14] at h
  refine ev_if_f (t := 31) zo_207_18 rfl (zcm_neq c14) rfl ?_
  refine ev_iload_n zo_207_21 rfl rfl rfl ?_
  by_cases c15 : x2 < (0 : Int32)
  · rw [if_pos c15] at h
    refine ev_if_t (t := 34) zo_207_22 rfl (zcm_lt c15) ?_
    exact G_X7_sheet_34 hd x1 x2 x3 q13.2 r h
  rw [if_neg c15] at h
  refine ev_if_f (t := 34) zo_207_22 rfl (zcm_nlt c15) rfl ?_
  refine ev_iload_n zo_207_25 rfl rfl rfl ?_
  refine ev_bipush (x := 40) zo_207_26 (by decide) rfl ?_
  by_cases c16 : (40 : Int32) < x3
  · rw [if_pos c16] at h
    refine ev_cmp_f (t := 34) zo_207_28 rfl (zcm_nle c16) rfl ?_
    refine ev_bipush (x := (-2)) zo_207_31 (by decide) rfl ?_
    obtain rfl := Option.some.inj h
    exact ev_retI zo_207_33 zr_207
  rw [if_neg c16] at h
  refine ev_cmp_t (t := 34) zo_207_28 rfl (zcm_le c16) ?_
  exact G_X7_sheet_34 hd x1 x2 x3 q13.2 r h
/-! X7_film -/
def F_X7_film_23 : Nat → Int32 → Int32 → zzJ → Option (Int32 × zzJ)
  | 0, _, _, _ => none
  | n + 1, l1, l2, J => (if l2 < (J.2 46 14) then (Option.bind (F_X7_noiseOf l2 J) fun q2 => (if zzIx (((40 : Int32) * l1) + l2) 160 then F_X7_film_23 n l1 (l2 + 1) (wI q2.2 65 (((40 : Int32) * l1) + l2).toNatClampNeg q2.1) else none)) else some ((J.2 46 14), J))
set_option maxRecDepth 100000 in
set_option maxHeartbeats 2000000 in
theorem G_X7_film_23 {d : Nat} (hd : 94 ≤ d) : ∀ (n : Nat) (l1 : Int32) (l2 : Int32) (J : zzJ) (r : Int32 × zzJ), F_X7_film_23 n l1 l2 J = some r → zzEv d 199 23 [.ref 46, .int l1, .int l2] [] (zK J) (some (.int r.1), zK r.2) := by
  intro n
  induction n with
  | zero => intro l1 l2 J r h; simp [F_X7_film_23] at h
  | succ n ih =>
    intro l1 l2 J r h
    rw [F_X7_film_23] at h
    refine ev_iload_n zo_199_23 rfl rfl rfl ?_
    refine ev_aload_n zo_199_24 rfl rfl rfl rfl ?_
    refine ev_getI zo_199_25 zf_199_85 (by decide) (Or.inl rfl) rfl rfl ?_
    by_cases c1 : l2 < (J.2 46 14)
    · rw [if_pos c1] at h
      refine ev_cmp_f (t := 53) zo_199_28 rfl (zcm_nge c1) rfl ?_
      refine ev_aload_n zo_199_31 rfl rfl rfl rfl ?_
      refine ev_getR zo_199_32 zf_199_75 (by decide) rfl rfl rfl rfl ?_
      refine ev_bipush (x := 40) zo_199_35 (by decide) rfl ?_
      refine ev_iload_n zo_199_37 rfl rfl rfl ?_
      refine ev_imul zo_199_38 rfl ?_
      refine ev_iload_n zo_199_39 rfl rfl rfl ?_
      refine ev_iadd zo_199_40 rfl ?_
      refine ev_aload_n zo_199_41 rfl rfl rfl rfl ?_
      refine ev_iload_n zo_199_42 rfl rfl rfl ?_
      obtain ⟨q2, hq2, h⟩ := zz_bd h
      refine ev_cV (as := [.int l2]) (lsn := [.ref 46, .int l2, zzU, zzU, zzU, zzU]) (by omega) zo_199_43 zl_199_133 (by rw [zm_175]; rfl) (by rw [zm_175]; exact rfl) (by rw [zm_175]; decide) (by unfold zzIn; rw [zm_175]; rfl) (by rw [zm_175]; exact Nat.le_of_ble_eq_true rfl) (Nat.le_of_ble_eq_true rfl) (G_X7_noiseOf (by omega) l2 J q2 hq2) rfl ?_
      show zzEv _ _ _ _ [.int q2.1, .int (((40 : Int32) * l1) + l2), .ref 65] _ _
      obtain ⟨c3, h⟩ := zz_chk h
      refine ev_iast zo_199_46 rfl c3 rfl ?_
      refine ev_iinc (v := 1) zo_199_47 rfl (by decide) (zz_set rfl (by decide) (Nat.le_of_ble_eq_true rfl)) rfl ?_
      show zzEv _ _ _ [.ref 46, .int l1, .int (l2 + 1)] _ _ _
      refine ev_goto (t := 23) zo_199_50 rfl ?_
      exact ih l1 (l2 + 1) (wI q2.2 65 (((40 : Int32) * l1) + l2).toNatClampNeg q2.1) r h
    rw [if_neg c1] at h
    refine ev_cmp_t (t := 53) zo_199_28 rfl (zcm_ge c1) ?_
    refine ev_aload_n zo_199_53 rfl rfl rfl rfl ?_
    refine ev_getI zo_199_54 zf_199_85 (by decide) (Or.inl rfl) rfl rfl ?_
    obtain rfl := Option.some.inj h
    exact ev_retI zo_199_57 zr_199
def F_X7_film (x1 : Int32) (J : zzJ) : Option (Int32 × zzJ) := (Option.bind (F_X7_isSheet x1 J) fun q4 => (if q4.1 = (0 : Int32) then some ((-2 : Int32), q4.2) else (Option.bind (F_X7_sheet x1 (1 : Int32) (q4.2.2 46 14) q4.2) fun q6 => F_X7_film_23 4096 x1 (0 : Int32) q6.2)))
set_option maxRecDepth 100000 in
set_option maxHeartbeats 2000000 in
theorem G_X7_film {d : Nat} (hd : 94 ≤ d) (x1 : Int32) (J : zzJ) (r : Int32 × zzJ) (h : F_X7_film x1 J = some r) : zzEv d 199 0 [.ref 46, .int x1, zzU] [] (zK J) (some (.int r.1), zK r.2) := by
  unfold F_X7_film at h
  refine ev_iload_n zo_199_0 rfl rfl rfl ?_
  obtain ⟨q4, hq4, h⟩ := zz_bd h
  refine ev_cS (as := [.int x1]) (lsn := [.int x1]) (by omega) zo_199_1 zl_199_334 (by decide) (by rw [zm_206]; rfl) (by unfold zzIn; rw [zm_206]; rfl) (by rw [zm_206]; exact Nat.le_of_ble_eq_true rfl) (Nat.le_of_ble_eq_true rfl) (G_X7_isSheet (by omega) x1 J q4 hq4) rfl ?_
  show zzEv _ _ _ _ [.int q4.1] _ _
  by_cases c5 : q4.1 = (0 : Int32)
  · rw [if_pos c5] at h
    refine ev_if_f (t := 10) zo_199_4 rfl (zcm_nne c5) rfl ?_
    refine ev_bipush (x := (-2)) zo_199_7 (by decide) rfl ?_
    obtain rfl := Option.some.inj h
    exact ev_retI zo_199_9 zr_199
  rw [if_neg c5] at h
  refine ev_if_t (t := 10) zo_199_4 rfl (zcm_ne c5) ?_
  refine ev_aload_n zo_199_10 rfl rfl rfl rfl ?_
  refine ev_iload_n zo_199_11 rfl rfl rfl ?_
  refine ev_iconst (x := 1) zo_199_12 (by decide) rfl ?_
  refine ev_aload_n zo_199_13 rfl rfl rfl rfl ?_
  refine ev_getI zo_199_14 zf_199_85 (by decide) (Or.inl rfl) rfl rfl ?_
  obtain ⟨q6, hq6, h⟩ := zz_bd h
  refine ev_cV (as := [.int (q4.2.2 46 14), .int (1 : Int32), .int x1]) (lsn := [.ref 46, .int x1, .int (1 : Int32), .int (q4.2.2 46 14), zzU]) (by omega) zo_199_17 zl_199_354 (by rw [zm_207]; rfl) (by rw [zm_207]; exact rfl) (by rw [zm_207]; decide) (by unfold zzIn; rw [zm_207]; rfl) (by rw [zm_207]; exact Nat.le_of_ble_eq_true rfl) (Nat.le_of_ble_eq_true rfl) (G_X7_sheet (by omega) x1 (1 : Int32) (q4.2.2 46 14) q4.2 q6 hq6) rfl ?_
  show zzEv _ _ _ _ [.int q6.1] _ _
  refine ev_pop zo_199_20 rfl rfl ?_
  refine ev_iconst (x := 0) zo_199_21 (by decide) rfl ?_
  refine ev_istore_n zo_199_22 rfl (zz_set rfl (by decide) (Nat.le_of_ble_eq_true rfl)) rfl ?_
  show zzEv _ _ _ [.ref 46, .int x1, .int (0 : Int32)] _ _ _
  exact G_X7_film_23 hd 4096 x1 (0 : Int32) q6.2 r h
/-! X7_dinBy -/
def F_X7_dinBy_57 (kl_30 : Int32 → Int32 → zzJ → Option (Int32 × zzJ)) : Nat → Int32 → Int32 → Int32 → zzJ → Option (Int32 × zzJ)
  | 0, _, _, _, _ => none
  | n + 1, l2, l3, l4, J => (if zzIx l4 24 then (if (J.2 54 l4.toNatClampNeg) = (-1 : Int32) then (Option.bind (F_X7_seats l3 l4 J) fun q3 => kl_30 l2 (l3 + 1) q3) else F_X7_dinBy_57 kl_30 n l2 l3 (zRem (l4 + (1 : Int32)) (24 : Int32)) J) else none)
set_option maxRecDepth 100000 in
set_option maxHeartbeats 2000000 in
theorem G_X7_dinBy_57 {d : Nat} (kl_30 : Int32 → Int32 → zzJ → Option (Int32 × zzJ)) (hkl_30 : ∀ (l2 : Int32) (l3 : Int32) (J : zzJ) (r : Int32 × zzJ), kl_30 l2 l3 J = some r → ∀ (lv1 : Value) (hlv1 : lv1.category = 1), ∀ (lv4 : Value) (hlv4 : lv4.category = 1), zzEv d 200 30 [.ref 46, lv1, .int l2, .int l3, lv4] [] (zK J) (some (.int r.1), zK r.2)) (hd : 95 ≤ d) : ∀ (n : Nat) (l2 : Int32) (l3 : Int32) (l4 : Int32) (J : zzJ) (r : Int32 × zzJ), F_X7_dinBy_57 kl_30 n l2 l3 l4 J = some r → ∀ (lv1 : Value) (hlv1 : lv1.category = 1), zzEv d 200 57 [.ref 46, lv1, .int l2, .int l3, .int l4] [] (zK J) (some (.int r.1), zK r.2) := by
  intro n
  induction n with
  | zero => intro l2 l3 l4 J r h; simp [F_X7_dinBy_57] at h
  | succ n ih =>
    intro l2 l3 l4 J r h lv1 hlv1
    rw [F_X7_dinBy_57] at h
    refine ev_aload_n zo_200_57 rfl rfl rfl rfl ?_
    refine ev_getR zo_200_58 zf_200_38 (by decide) rfl rfl rfl rfl ?_
    refine ev_iload zo_200_61 rfl rfl ?_
    obtain ⟨c1, h⟩ := zz_chk h
    refine ev_iald zo_200_63 rfl c1 rfl ?_
    refine ev_iconst (x := (-1)) zo_200_64 (by decide) rfl ?_
    by_cases c2 : (J.2 54 l4.toNatClampNeg) = (-1 : Int32)
    · rw [if_pos c2] at h
      refine ev_cmp_t (t := 80) zo_200_65 rfl (zcm_eq c2) ?_
      refine ev_aload_n zo_200_80 rfl rfl rfl rfl ?_
      refine ev_iload_n zo_200_81 rfl rfl rfl ?_
      refine ev_iload zo_200_82 rfl rfl ?_
      obtain ⟨q3, hq3, h⟩ := zz_bd h
      refine ev_cV (as := [.int l4, .int l3]) (lsn := [.ref 46, .int l3, .int l4]) (by omega) zo_200_84 zl_200_129 (by rw [zm_146]; rfl) (by rw [zm_146]; exact rfl) (by rw [zm_146]; decide) (by unfold zzIn; rw [zm_146]; rfl) (by rw [zm_146]; exact Nat.le_of_ble_eq_true rfl) (Nat.le_of_ble_eq_true rfl) (G_X7_seats (by omega) l3 l4 J q3 hq3) rfl ?_
      show zzEv _ _ _ _ [] _ _
      refine ev_iinc (v := 1) zo_200_87 rfl (by decide) (zz_set rfl (by decide) (Nat.le_of_ble_eq_true rfl)) rfl ?_
      show zzEv _ _ _ [.ref 46, lv1, .int l2, .int (l3 + 1), .int l4] _ _ _
      refine ev_goto (t := 30) zo_200_90 rfl ?_
      exact hkl_30 l2 (l3 + 1) q3 r h (lv1) hlv1 (.int l4) rfl
    rw [if_neg c2] at h
    refine ev_cmp_f (t := 80) zo_200_65 rfl (zcm_neq c2) rfl ?_
    refine ev_iload zo_200_68 rfl rfl ?_
    refine ev_iconst (x := 1) zo_200_70 (by decide) rfl ?_
    refine ev_iadd zo_200_71 rfl ?_
    refine ev_bipush (x := 24) zo_200_72 (by decide) rfl ?_
    refine ev_irem zo_200_74 (by decide) rfl ?_
    refine ev_istore zo_200_75 (zz_set rfl (by decide) (Nat.le_of_ble_eq_true rfl)) rfl ?_
    show zzEv _ _ _ [.ref 46, lv1, .int l2, .int l3, .int (zRem (l4 + (1 : Int32)) (24 : Int32))] _ _ _
    refine ev_goto (t := 57) zo_200_77 rfl ?_
    exact ih l2 l3 (zRem (l4 + (1 : Int32)) (24 : Int32)) J r h (lv1) hlv1
def F_X7_dinBy_30 : Nat → Int32 → Int32 → zzJ → Option (Int32 × zzJ)
  | 0, _, _, _ => none
  | n + 1, l2, l3, J => (if l3 < (J.2 46 14) then F_X7_dinBy_57 (F_X7_dinBy_30 n) 4096 ((l2 * (1103515245 : Int32)) + (12345 : Int32)) l3 (zRem (zUsh ((l2 * (1103515245 : Int32)) + (12345 : Int32)) (9 : Int32)) (24 : Int32)) J else (Option.bind (F_X7_din J) fun q5 => (Option.bind (F_X7_sitsAgain q5.2) fun q6 => some (q5.1, q6))))
set_option maxRecDepth 100000 in
set_option maxHeartbeats 2000000 in
theorem G_X7_dinBy_30 {d : Nat} (hd : 95 ≤ d) : ∀ (n : Nat) (l2 : Int32) (l3 : Int32) (J : zzJ) (r : Int32 × zzJ), F_X7_dinBy_30 n l2 l3 J = some r → ∀ (lv1 : Value) (hlv1 : lv1.category = 1), ∀ (lv4 : Value) (hlv4 : lv4.category = 1), zzEv d 200 30 [.ref 46, lv1, .int l2, .int l3, lv4] [] (zK J) (some (.int r.1), zK r.2) := by
  intro n
  induction n with
  | zero => intro l2 l3 J r h; simp [F_X7_dinBy_30] at h
  | succ n ih =>
    intro l2 l3 J r h lv1 hlv1 lv4 hlv4
    rw [F_X7_dinBy_30] at h
    refine ev_iload_n zo_200_30 rfl rfl rfl ?_
    refine ev_aload_n zo_200_31 rfl rfl rfl rfl ?_
    refine ev_getI zo_200_32 zf_200_85 (by decide) (Or.inl rfl) rfl rfl ?_
    by_cases c4 : l3 < (J.2 46 14)
    · rw [if_pos c4] at h
      refine ev_cmp_f (t := 93) zo_200_35 rfl (zcm_nge c4) rfl ?_
      refine ev_iload_n zo_200_38 rfl rfl rfl ?_
      refine ev_ldcw zo_200_39 zc_200_357 rfl ?_
      refine ev_imul zo_200_42 rfl ?_
      refine ev_sipush (x := 12345) zo_200_43 (by decide) rfl ?_
      refine ev_iadd zo_200_46 rfl ?_
      refine ev_istore_n zo_200_47 rfl (zz_set (zz_lg (j := 1) rfl hlv1) (by decide) (Nat.le_of_ble_eq_true rfl)) rfl ?_
      show zzEv _ _ _ [.ref 46, lv1, .int ((l2 * (1103515245 : Int32)) + (12345 : Int32)), .int l3, lv4] _ _ _
      refine ev_iload_n zo_200_48 rfl rfl rfl ?_
      refine ev_bipush (x := 9) zo_200_49 (by decide) rfl ?_
      refine ev_iushr zo_200_51 rfl ?_
      refine ev_bipush (x := 24) zo_200_52 (by decide) rfl ?_
      refine ev_irem zo_200_54 (by decide) rfl ?_
      refine ev_istore zo_200_55 (zz_set rfl (by decide) (Nat.le_of_ble_eq_true rfl)) rfl ?_
      show zzEv _ _ _ [.ref 46, lv1, .int ((l2 * (1103515245 : Int32)) + (12345 : Int32)), .int l3, .int (zRem (zUsh ((l2 * (1103515245 : Int32)) + (12345 : Int32)) (9 : Int32)) (24 : Int32))] _ _ _
      exact G_X7_dinBy_57 (F_X7_dinBy_30 n) ih hd 4096 ((l2 * (1103515245 : Int32)) + (12345 : Int32)) l3 (zRem (zUsh ((l2 * (1103515245 : Int32)) + (12345 : Int32)) (9 : Int32)) (24 : Int32)) J r h (lv1) hlv1
    rw [if_neg c4] at h
    refine ev_cmp_t (t := 93) zo_200_35 rfl (zcm_ge c4) ?_
    refine ev_aload_n zo_200_93 rfl rfl rfl rfl ?_
    obtain ⟨q5, hq5, h⟩ := zz_bd h
    refine ev_cV (as := []) (lsn := [.ref 46, zzU, zzU]) (by omega) zo_200_94 zl_200_287 (by rw [zm_178]; rfl) (by rw [zm_178]; exact rfl) (by rw [zm_178]; decide) (by unfold zzIn; rw [zm_178]; rfl) (by rw [zm_178]; exact Nat.le_of_ble_eq_true rfl) (Nat.le_of_ble_eq_true rfl) (G_X7_din (by omega) J q5 hq5) rfl ?_
    show zzEv _ _ _ _ [.int q5.1] _ _
    refine ev_istore_n zo_200_97 rfl (zz_set rfl (by decide) (Nat.le_of_ble_eq_true rfl)) rfl ?_
    show zzEv _ _ _ [.ref 46, lv1, .int l2, .int q5.1, lv4] _ _ _
    refine ev_aload_n zo_200_98 rfl rfl rfl rfl ?_
    obtain ⟨q6, hq6, h⟩ := zz_bd h
    refine ev_cV (as := []) (lsn := [.ref 46, zzU]) (by omega) zo_200_99 zl_200_343 (by rw [zm_192]; rfl) (by rw [zm_192]; exact rfl) (by rw [zm_192]; decide) (by unfold zzIn; rw [zm_192]; rfl) (by rw [zm_192]; exact Nat.le_of_ble_eq_true rfl) (Nat.le_of_ble_eq_true rfl) (G_X7_sitsAgain (by omega) q5.2 q6 hq6) rfl ?_
    show zzEv _ _ _ _ [] _ _
    refine ev_iload_n zo_200_102 rfl rfl rfl ?_
    obtain rfl := Option.some.inj h
    exact ev_retI zo_200_103 zr_200
def F_X7_dinBy_6 : Nat → Int32 → Int32 → zzJ → Option (Int32 × zzJ)
  | 0, _, _, _ => none
  | n + 1, l1, l2, J => (if l2 < (J.2 46 14) then (Option.bind (F_X7_seats l2 (-1 : Int32) J) fun q8 => F_X7_dinBy_6 n l1 (l2 + 1) q8) else F_X7_dinBy_30 4096 l1 (0 : Int32) J)
set_option maxRecDepth 100000 in
set_option maxHeartbeats 2000000 in
theorem G_X7_dinBy_6 {d : Nat} (hd : 95 ≤ d) : ∀ (n : Nat) (l1 : Int32) (l2 : Int32) (J : zzJ) (r : Int32 × zzJ), F_X7_dinBy_6 n l1 l2 J = some r → zzEv d 200 6 [.ref 46, .int l1, .int l2, zzU, zzU] [] (zK J) (some (.int r.1), zK r.2) := by
  intro n
  induction n with
  | zero => intro l1 l2 J r h; simp [F_X7_dinBy_6] at h
  | succ n ih =>
    intro l1 l2 J r h
    rw [F_X7_dinBy_6] at h
    refine ev_iload_n zo_200_6 rfl rfl rfl ?_
    refine ev_aload_n zo_200_7 rfl rfl rfl rfl ?_
    refine ev_getI zo_200_8 zf_200_85 (by decide) (Or.inl rfl) rfl rfl ?_
    by_cases c7 : l2 < (J.2 46 14)
    · rw [if_pos c7] at h
      refine ev_cmp_f (t := 26) zo_200_11 rfl (zcm_nge c7) rfl ?_
      refine ev_aload_n zo_200_14 rfl rfl rfl rfl ?_
      refine ev_iload_n zo_200_15 rfl rfl rfl ?_
      refine ev_iconst (x := (-1)) zo_200_16 (by decide) rfl ?_
      obtain ⟨q8, hq8, h⟩ := zz_bd h
      refine ev_cV (as := [.int (-1 : Int32), .int l2]) (lsn := [.ref 46, .int l2, .int (-1 : Int32)]) (by omega) zo_200_17 zl_200_129 (by rw [zm_146]; rfl) (by rw [zm_146]; exact rfl) (by rw [zm_146]; decide) (by unfold zzIn; rw [zm_146]; rfl) (by rw [zm_146]; exact Nat.le_of_ble_eq_true rfl) (Nat.le_of_ble_eq_true rfl) (G_X7_seats (by omega) l2 (-1 : Int32) J q8 hq8) rfl ?_
      show zzEv _ _ _ _ [] _ _
      refine ev_iinc (v := 1) zo_200_20 rfl (by decide) (zz_set rfl (by decide) (Nat.le_of_ble_eq_true rfl)) rfl ?_
      show zzEv _ _ _ [.ref 46, .int l1, .int (l2 + 1), zzU, zzU] _ _ _
      refine ev_goto (t := 6) zo_200_23 rfl ?_
      exact ih l1 (l2 + 1) q8 r h
    rw [if_neg c7] at h
    refine ev_cmp_t (t := 26) zo_200_11 rfl (zcm_ge c7) ?_
    refine ev_iload_n zo_200_26 rfl rfl rfl ?_
    refine ev_istore_n zo_200_27 rfl (zz_set rfl (by decide) (Nat.le_of_ble_eq_true rfl)) rfl ?_
    show zzEv _ _ _ [.ref 46, .int l1, .int l1, zzU, zzU] _ _ _
    refine ev_iconst (x := 0) zo_200_28 (by decide) rfl ?_
    refine ev_istore_n zo_200_29 rfl (zz_set rfl (by decide) (Nat.le_of_ble_eq_true rfl)) rfl ?_
    show zzEv _ _ _ [.ref 46, .int l1, .int l1, .int (0 : Int32), zzU] _ _ _
    exact G_X7_dinBy_30 hd 4096 l1 (0 : Int32) J r h (.int l1) rfl (zzU) rfl
def F_X7_dinBy (x1 : Int32) (J : zzJ) : Option (Int32 × zzJ) := (Option.bind (F_X7_stands J) fun q9 => F_X7_dinBy_6 4096 x1 (0 : Int32) q9)
set_option maxRecDepth 100000 in
set_option maxHeartbeats 2000000 in
theorem G_X7_dinBy {d : Nat} (hd : 95 ≤ d) (x1 : Int32) (J : zzJ) (r : Int32 × zzJ) (h : F_X7_dinBy x1 J = some r) : zzEv d 200 0 [.ref 46, .int x1, zzU, zzU, zzU] [] (zK J) (some (.int r.1), zK r.2) := by
  unfold F_X7_dinBy at h
  refine ev_aload_n zo_200_0 rfl rfl rfl rfl ?_
  obtain ⟨q9, hq9, h⟩ := zz_bd h
  refine ev_cV (as := []) (lsn := [.ref 46, zzU]) (by omega) zo_200_1 zl_200_340 (by rw [zm_191]; rfl) (by rw [zm_191]; exact rfl) (by rw [zm_191]; decide) (by unfold zzIn; rw [zm_191]; rfl) (by rw [zm_191]; exact Nat.le_of_ble_eq_true rfl) (Nat.le_of_ble_eq_true rfl) (G_X7_stands (by omega) J q9 hq9) rfl ?_
  show zzEv _ _ _ _ [] _ _
  refine ev_iconst (x := 0) zo_200_4 (by decide) rfl ?_
  refine ev_istore_n zo_200_5 rfl (zz_set rfl (by decide) (Nat.le_of_ble_eq_true rfl)) rfl ?_
  show zzEv _ _ _ [.ref 46, .int x1, .int (0 : Int32), zzU, zzU] _ _ _
  exact G_X7_dinBy_6 hd 4096 x1 (0 : Int32) q9 r h
/-! X7_drawn -/
def F_X7_drawn (x1 : Int32) (J : zzJ) : Option (Int32 × zzJ) := (Option.bind (F_X7_dinBy x1 J) fun q1 => some (q1.1, q1.2))
set_option maxRecDepth 100000 in
set_option maxHeartbeats 2000000 in
theorem G_X7_drawn {d : Nat} (hd : 96 ≤ d) (x1 : Int32) (J : zzJ) (r : Int32 × zzJ) (h : F_X7_drawn x1 J = some r) : zzEv d 201 0 [.ref 46, .int x1] [] (zK J) (some (.int r.1), zK r.2) := by
  unfold F_X7_drawn at h
  refine ev_aload_n zo_201_0 rfl rfl rfl rfl ?_
  refine ev_iload_n zo_201_1 rfl rfl rfl ?_
  obtain ⟨q1, hq1, h⟩ := zz_bd h
  refine ev_cV (as := [.int x1]) (lsn := [.ref 46, .int x1, zzU, zzU, zzU]) (by omega) zo_201_2 zl_201_358 (by rw [zm_200]; rfl) (by rw [zm_200]; exact rfl) (by rw [zm_200]; decide) (by unfold zzIn; rw [zm_200]; rfl) (by rw [zm_200]; exact Nat.le_of_ble_eq_true rfl) (Nat.le_of_ble_eq_true rfl) (G_X7_dinBy (by omega) x1 J q1 hq1) rfl ?_
  show zzEv _ _ _ _ [.int q1.1] _ _
  obtain rfl := Option.some.inj h
  exact ev_retI zo_201_5 zr_201
/-! X7_chance -/
def F_X7_chance_81 : Nat → Int32 → Int32 → Int64 → Int64 → Int64 → zzJ → Option (Int64 × zzJ)
  | 0, _, _, _, _, _, _ => none
  | n + 1, l2, l3, l5, l7, l9, J => (if (lg_cmp l9 (0 : Int64)) = (0 : Int32) then (if l3 = (0 : Int32) then (if ¬ l7 = 0 then some ((l5 / l7), J) else none) else (if ¬ l7 = 0 then some ((l2.toInt64 / l7), J) else none)) else (if ¬ l9 = 0 then F_X7_chance_81 n l2 l3 l5 l9 (zRemL l7 l9) J else none))
set_option maxRecDepth 100000 in
set_option maxHeartbeats 2000000 in
theorem G_X7_chance_81 {d : Nat} (hd : 96 ≤ d) : ∀ (n : Nat) (l2 : Int32) (l3 : Int32) (l5 : Int64) (l7 : Int64) (l9 : Int64) (J : zzJ) (r : Int64 × zzJ), F_X7_chance_81 n l2 l3 l5 l7 l9 J = some r → ∀ (lv1 : Value) (hlv1 : lv1.category = 1), ∀ (lv4 : Value) (hlv4 : lv4.category = 1), ∀ (lv11 : Value), zzEv d 202 81 [.ref 46, lv1, .int l2, .int l3, lv4, .long l5, zzU, .long l7, zzU, .long l9, zzU, lv11, zzU] [] (zK J) (some (.long r.1), zK r.2) := by
  intro n
  induction n with
  | zero => intro l2 l3 l5 l7 l9 J r h; simp [F_X7_chance_81] at h
  | succ n ih =>
    intro l2 l3 l5 l7 l9 J r h lv1 hlv1 lv4 hlv4 lv11
    rw [F_X7_chance_81] at h
    refine ev_lload zo_202_81 rfl rfl ?_
    refine ev_lconst (x := 0) zo_202_83 (by decide) rfl ?_
    refine ev_lcmp zo_202_84 rfl ?_
    by_cases c1 : (lg_cmp l9 (0 : Int64)) = (0 : Int32)
    · rw [if_pos c1] at h
      refine ev_if_t (t := 106) zo_202_85 rfl (zcm_eq c1) ?_
      refine ev_iload_n zo_202_106 rfl rfl rfl ?_
      by_cases c2 : l3 = (0 : Int32)
      · rw [if_pos c2] at h
        refine ev_if_f (t := 118) zo_202_107 rfl (zcm_nne c2) rfl ?_
        refine ev_lload zo_202_110 rfl rfl ?_
        refine ev_lload zo_202_112 rfl rfl ?_
        obtain ⟨c4, h⟩ := zz_chk h
        refine ev_ldiv zo_202_114 c4 rfl ?_
        refine ev_goto (t := 123) zo_202_115 rfl ?_
        obtain rfl := Option.some.inj h
        exact ev_retL zo_202_123 zr_202
      rw [if_neg c2] at h
      refine ev_if_t (t := 118) zo_202_107 rfl (zcm_ne c2) ?_
      refine ev_iload_n zo_202_118 rfl rfl rfl ?_
      refine ev_i2l zo_202_119 rfl ?_
      refine ev_lload zo_202_120 rfl rfl ?_
      obtain ⟨c3, h⟩ := zz_chk h
      refine ev_ldiv zo_202_122 c3 rfl ?_
      obtain rfl := Option.some.inj h
      exact ev_retL zo_202_123 zr_202
    rw [if_neg c1] at h
    refine ev_if_f (t := 106) zo_202_85 rfl (zcm_neq c1) rfl ?_
    refine ev_lload zo_202_88 rfl rfl ?_
    refine ev_lload zo_202_90 rfl rfl ?_
    obtain ⟨c5, h⟩ := zz_chk h
    refine ev_lrem zo_202_92 c5 rfl ?_
    refine ev_lstore zo_202_93 (zz_setL rfl (Nat.le_of_ble_eq_true rfl)) rfl ?_
    show zzEv _ _ _ [.ref 46, lv1, .int l2, .int l3, lv4, .long l5, zzU, .long l7, zzU, .long l9, zzU, .long (zRemL l7 l9), zzU] _ _ _
    refine ev_lload zo_202_95 rfl rfl ?_
    refine ev_lstore zo_202_97 (zz_setL rfl (Nat.le_of_ble_eq_true rfl)) rfl ?_
    show zzEv _ _ _ [.ref 46, lv1, .int l2, .int l3, lv4, .long l5, zzU, .long l9, zzU, .long l9, zzU, .long (zRemL l7 l9), zzU] _ _ _
    refine ev_lload zo_202_99 rfl rfl ?_
    refine ev_lstore zo_202_101 (zz_setL rfl (Nat.le_of_ble_eq_true rfl)) rfl ?_
    show zzEv _ _ _ [.ref 46, lv1, .int l2, .int l3, lv4, .long l5, zzU, .long l9, zzU, .long (zRemL l7 l9), zzU, .long (zRemL l7 l9), zzU] _ _ _
    refine ev_goto (t := 81) zo_202_103 rfl ?_
    exact ih l2 l3 l5 l9 (zRemL l7 l9) J r h (lv1) hlv1 (lv4) hlv4 (.long (zRemL l7 l9))
def F_X7_chance_38 : Nat → Int32 → Int32 → Int32 → Int32 → Int64 → Int32 → zzJ → Option (Int64 × zzJ)
  | 0, _, _, _, _, _, _, _ => none
  | n + 1, l1, l2, l3, l4, l5, l7, J => (if l7 < l2 then (Option.bind (F_X7_dinBy (l1 + l7) J) fun q7 => (if l4 < q7.1 then F_X7_chance_38 n l1 l2 l3 l4 (l5 + (0 : Int64)) (l7 + 1) q7.2 else F_X7_chance_38 n l1 l2 l3 l4 (l5 + (1 : Int64)) (l7 + 1) q7.2)) else F_X7_chance_81 4096 l2 l3 l5 l5 l2.toInt64 J)
set_option maxRecDepth 100000 in
set_option maxHeartbeats 2000000 in
theorem G_X7_chance_38 {d : Nat} (hd : 96 ≤ d) : ∀ (n : Nat) (l1 : Int32) (l2 : Int32) (l3 : Int32) (l4 : Int32) (l5 : Int64) (l7 : Int32) (J : zzJ) (r : Int64 × zzJ), F_X7_chance_38 n l1 l2 l3 l4 l5 l7 J = some r → zzEv d 202 38 [.ref 46, .int l1, .int l2, .int l3, .int l4, .long l5, zzU, .int l7, zzU, zzU, zzU, zzU, zzU] [] (zK J) (some (.long r.1), zK r.2) := by
  intro n
  induction n with
  | zero => intro l1 l2 l3 l4 l5 l7 J r h; simp [F_X7_chance_38] at h
  | succ n ih =>
    intro l1 l2 l3 l4 l5 l7 J r h
    rw [F_X7_chance_38] at h
    refine ev_iload zo_202_38 rfl rfl ?_
    refine ev_iload_n zo_202_40 rfl rfl rfl ?_
    by_cases c6 : l7 < l2
    · rw [if_pos c6] at h
      refine ev_cmp_f (t := 73) zo_202_41 rfl (zcm_nge c6) rfl ?_
      refine ev_lload zo_202_44 rfl rfl ?_
      refine ev_aload_n zo_202_46 rfl rfl rfl rfl ?_
      refine ev_iload_n zo_202_47 rfl rfl rfl ?_
      refine ev_iload zo_202_48 rfl rfl ?_
      refine ev_iadd zo_202_50 rfl ?_
      obtain ⟨q7, hq7, h⟩ := zz_bd h
      refine ev_cV (as := [.int (l1 + l7)]) (lsn := [.ref 46, .int (l1 + l7), zzU, zzU, zzU]) (by omega) zo_202_51 zl_202_358 (by rw [zm_200]; rfl) (by rw [zm_200]; exact rfl) (by rw [zm_200]; decide) (by unfold zzIn; rw [zm_200]; rfl) (by rw [zm_200]; exact Nat.le_of_ble_eq_true rfl) (Nat.le_of_ble_eq_true rfl) (G_X7_dinBy (by omega) (l1 + l7) J q7 hq7) rfl ?_
      show zzEv _ _ _ _ [.int q7.1, .long l5] _ _
      refine ev_iload zo_202_54 rfl rfl ?_
      by_cases c8 : l4 < q7.1
      · rw [if_pos c8] at h
        refine ev_cmp_t (t := 63) zo_202_56 rfl (zcm_gt c8) ?_
        refine ev_lconst (x := 0) zo_202_63 (by decide) rfl ?_
        refine ev_ladd zo_202_64 rfl ?_
        refine ev_lstore zo_202_65 (zz_setL rfl (Nat.le_of_ble_eq_true rfl)) rfl ?_
        show zzEv _ _ _ [.ref 46, .int l1, .int l2, .int l3, .int l4, .long (l5 + (0 : Int64)), zzU, .int l7, zzU, zzU, zzU, zzU, zzU] _ _ _
        refine ev_iinc (v := 1) zo_202_67 rfl (by decide) (zz_set rfl (by decide) (Nat.le_of_ble_eq_true rfl)) rfl ?_
        show zzEv _ _ _ [.ref 46, .int l1, .int l2, .int l3, .int l4, .long (l5 + (0 : Int64)), zzU, .int (l7 + 1), zzU, zzU, zzU, zzU, zzU] _ _ _
        refine ev_goto (t := 38) zo_202_70 rfl ?_
        exact ih l1 l2 l3 l4 (l5 + (0 : Int64)) (l7 + 1) q7.2 r h
      rw [if_neg c8] at h
      refine ev_cmp_f (t := 63) zo_202_56 rfl (zcm_ngt c8) rfl ?_
      refine ev_lconst (x := 1) zo_202_59 (by decide) rfl ?_
      refine ev_goto (t := 64) zo_202_60 rfl ?_
      refine ev_ladd zo_202_64 rfl ?_
      refine ev_lstore zo_202_65 (zz_setL rfl (Nat.le_of_ble_eq_true rfl)) rfl ?_
      show zzEv _ _ _ [.ref 46, .int l1, .int l2, .int l3, .int l4, .long (l5 + (1 : Int64)), zzU, .int l7, zzU, zzU, zzU, zzU, zzU] _ _ _
      refine ev_iinc (v := 1) zo_202_67 rfl (by decide) (zz_set rfl (by decide) (Nat.le_of_ble_eq_true rfl)) rfl ?_
      show zzEv _ _ _ [.ref 46, .int l1, .int l2, .int l3, .int l4, .long (l5 + (1 : Int64)), zzU, .int (l7 + 1), zzU, zzU, zzU, zzU, zzU] _ _ _
      refine ev_goto (t := 38) zo_202_70 rfl ?_
      exact ih l1 l2 l3 l4 (l5 + (1 : Int64)) (l7 + 1) q7.2 r h
    rw [if_neg c6] at h
    refine ev_cmp_t (t := 73) zo_202_41 rfl (zcm_ge c6) ?_
    refine ev_lload zo_202_73 rfl rfl ?_
    refine ev_lstore zo_202_75 (zz_setL rfl (Nat.le_of_ble_eq_true rfl)) rfl ?_
    show zzEv _ _ _ [.ref 46, .int l1, .int l2, .int l3, .int l4, .long l5, zzU, .long l5, zzU, zzU, zzU, zzU, zzU] _ _ _
    refine ev_iload_n zo_202_77 rfl rfl rfl ?_
    refine ev_i2l zo_202_78 rfl ?_
    refine ev_lstore zo_202_79 (zz_setL rfl (Nat.le_of_ble_eq_true rfl)) rfl ?_
    show zzEv _ _ _ [.ref 46, .int l1, .int l2, .int l3, .int l4, .long l5, zzU, .long l5, zzU, .long l2.toInt64, zzU, zzU, zzU] _ _ _
    exact G_X7_chance_81 hd 4096 l2 l3 l5 l5 l2.toInt64 J r h (.int l1) rfl (.int l4) rfl (zzU)
def F_X7_chance (x1 : Int32) (x2 : Int32) (x3 : Int32) (J : zzJ) : Option (Int64 × zzJ) := (Option.bind (F_X7_in x2.toInt64 (1 : Int64) (20 : Int64) J) fun q9 => (if q9.1 = (0 : Int32) then some ((-4611686018427387904 : Int64), q9.2) else (Option.bind (F_X7_in x3.toInt64 (0 : Int64) (1 : Int64) q9.2) fun q11 => (if q11.1 = (0 : Int32) then some ((-4611686018427387904 : Int64), q11.2) else (Option.bind (F_X7_din q11.2) fun q13 => F_X7_chance_38 4096 x1 x2 x3 q13.1 (0 : Int64) (0 : Int32) q13.2)))))
set_option maxRecDepth 100000 in
set_option maxHeartbeats 2000000 in
theorem G_X7_chance {d : Nat} (hd : 96 ≤ d) (x1 : Int32) (x2 : Int32) (x3 : Int32) (J : zzJ) (r : Int64 × zzJ) (h : F_X7_chance x1 x2 x3 J = some r) : zzEv d 202 0 [.ref 46, .int x1, .int x2, .int x3, zzU, zzU, zzU, zzU, zzU, zzU, zzU, zzU, zzU] [] (zK J) (some (.long r.1), zK r.2) := by
  unfold F_X7_chance at h
  refine ev_iload_n zo_202_0 rfl rfl rfl ?_
  refine ev_i2l zo_202_1 rfl ?_
  refine ev_lconst (x := 1) zo_202_2 (by decide) rfl ?_
  refine ev_ldc2 zo_202_3 zc_202_361 rfl ?_
  obtain ⟨q9, hq9, h⟩ := zz_bd h
  refine ev_cS (as := [.long (20 : Int64), .long (1 : Int64), .long x2.toInt64]) (lsn := [.long x2.toInt64, zzU, .long (1 : Int64), zzU, .long (20 : Int64), zzU]) (by omega) zo_202_6 zl_202_88 (by decide) (by rw [zm_136]; rfl) (by unfold zzIn; rw [zm_136]; rfl) (by rw [zm_136]; exact Nat.le_of_ble_eq_true rfl) (Nat.le_of_ble_eq_true rfl) (G_X7_in (by omega) x2.toInt64 (1 : Int64) (20 : Int64) J q9 hq9) rfl ?_
  show zzEv _ _ _ _ [.int q9.1] _ _
  by_cases c10 : q9.1 = (0 : Int32)
  · rw [if_pos c10] at h
    refine ev_if_t (t := 22) zo_202_9 rfl (zcm_eq c10) ?_
    refine ev_ldc2 zo_202_22 zc_202_363 rfl ?_
    obtain rfl := Option.some.inj h
    exact ev_retL zo_202_25 zr_202
  rw [if_neg c10] at h
  refine ev_if_f (t := 22) zo_202_9 rfl (zcm_neq c10) rfl ?_
  refine ev_iload_n zo_202_12 rfl rfl rfl ?_
  refine ev_i2l zo_202_13 rfl ?_
  refine ev_lconst (x := 0) zo_202_14 (by decide) rfl ?_
  refine ev_lconst (x := 1) zo_202_15 (by decide) rfl ?_
  obtain ⟨q11, hq11, h⟩ := zz_bd h
  refine ev_cS (as := [.long (1 : Int64), .long (0 : Int64), .long x3.toInt64]) (lsn := [.long x3.toInt64, zzU, .long (0 : Int64), zzU, .long (1 : Int64), zzU]) (by omega) zo_202_16 zl_202_88 (by decide) (by rw [zm_136]; rfl) (by unfold zzIn; rw [zm_136]; rfl) (by rw [zm_136]; exact Nat.le_of_ble_eq_true rfl) (Nat.le_of_ble_eq_true rfl) (G_X7_in (by omega) x3.toInt64 (0 : Int64) (1 : Int64) q9.2 q11 hq11) rfl ?_
  show zzEv _ _ _ _ [.int q11.1] _ _
  by_cases c12 : q11.1 = (0 : Int32)
  · rw [if_pos c12] at h
    refine ev_if_f (t := 26) zo_202_19 rfl (zcm_nne c12) rfl ?_
    refine ev_ldc2 zo_202_22 zc_202_363 rfl ?_
    obtain rfl := Option.some.inj h
    exact ev_retL zo_202_25 zr_202
  rw [if_neg c12] at h
  refine ev_if_t (t := 26) zo_202_19 rfl (zcm_ne c12) ?_
  refine ev_aload_n zo_202_26 rfl rfl rfl rfl ?_
  obtain ⟨q13, hq13, h⟩ := zz_bd h
  refine ev_cV (as := []) (lsn := [.ref 46, zzU, zzU]) (by omega) zo_202_27 zl_202_287 (by rw [zm_178]; rfl) (by rw [zm_178]; exact rfl) (by rw [zm_178]; decide) (by unfold zzIn; rw [zm_178]; rfl) (by rw [zm_178]; exact Nat.le_of_ble_eq_true rfl) (Nat.le_of_ble_eq_true rfl) (G_X7_din (by omega) q11.2 q13 hq13) rfl ?_
  show zzEv _ _ _ _ [.int q13.1] _ _
  refine ev_istore zo_202_30 (zz_set rfl (by decide) (Nat.le_of_ble_eq_true rfl)) rfl ?_
  show zzEv _ _ _ [.ref 46, .int x1, .int x2, .int x3, .int q13.1, zzU, zzU, zzU, zzU, zzU, zzU, zzU, zzU] _ _ _
  refine ev_lconst (x := 0) zo_202_32 (by decide) rfl ?_
  refine ev_lstore zo_202_33 (zz_setL rfl (Nat.le_of_ble_eq_true rfl)) rfl ?_
  show zzEv _ _ _ [.ref 46, .int x1, .int x2, .int x3, .int q13.1, .long (0 : Int64), zzU, zzU, zzU, zzU, zzU, zzU, zzU] _ _ _
  refine ev_iconst (x := 0) zo_202_35 (by decide) rfl ?_
  refine ev_istore zo_202_36 (zz_set rfl (by decide) (Nat.le_of_ble_eq_true rfl)) rfl ?_
  show zzEv _ _ _ [.ref 46, .int x1, .int x2, .int x3, .int q13.1, .long (0 : Int64), zzU, .int (0 : Int32), zzU, zzU, zzU, zzU, zzU] _ _ _
  exact G_X7_chance_38 hd 4096 x1 x2 x3 q13.1 (0 : Int64) (0 : Int32) q13.2 r h
/-! X7_image -/
def F_X7_image_2 : Nat → Int32 → zzJ → Option (Int32 × zzJ)
  | 0, _, _ => none
  | n + 1, l1, J => (if l1 < (J.2 46 14) then (if zzIx l1 8 then (if zzIx l1 8 then (if zzIx l1 8 then (if zzIx l1 8 then (if zzIx l1 8 then (if zzIx l1 8 then F_X7_image_2 n (l1 + 1) (wI (wI (wI J 59 l1.toNatClampNeg (J.2 51 l1.toNatClampNeg)) 60 l1.toNatClampNeg ((wI J 59 l1.toNatClampNeg (J.2 51 l1.toNatClampNeg)).2 52 l1.toNatClampNeg)) 61 l1.toNatClampNeg ((wI (wI J 59 l1.toNatClampNeg (J.2 51 l1.toNatClampNeg)) 60 l1.toNatClampNeg ((wI J 59 l1.toNatClampNeg (J.2 51 l1.toNatClampNeg)).2 52 l1.toNatClampNeg)).2 53 l1.toNatClampNeg)) else none) else none) else none) else none) else none) else none) else some (((wI (wI (wI (wI J 46 44 (J.2 46 14)) 46 45 ((wI J 46 44 (J.2 46 14)).2 46 7)) 46 46 ((wI (wI J 46 44 (J.2 46 14)) 46 45 ((wI J 46 44 (J.2 46 14)).2 46 7)).2 46 8)) 46 47 ((wI (wI (wI J 46 44 (J.2 46 14)) 46 45 ((wI J 46 44 (J.2 46 14)).2 46 7)) 46 46 ((wI (wI J 46 44 (J.2 46 14)) 46 45 ((wI J 46 44 (J.2 46 14)).2 46 7)).2 46 8)).2 46 4)).2 46 14), (wI (wI (wI (wI J 46 44 (J.2 46 14)) 46 45 ((wI J 46 44 (J.2 46 14)).2 46 7)) 46 46 ((wI (wI J 46 44 (J.2 46 14)) 46 45 ((wI J 46 44 (J.2 46 14)).2 46 7)).2 46 8)) 46 47 ((wI (wI (wI J 46 44 (J.2 46 14)) 46 45 ((wI J 46 44 (J.2 46 14)).2 46 7)) 46 46 ((wI (wI J 46 44 (J.2 46 14)) 46 45 ((wI J 46 44 (J.2 46 14)).2 46 7)).2 46 8)).2 46 4))))
set_option maxRecDepth 100000 in
set_option maxHeartbeats 2000000 in
theorem G_X7_image_2 {d : Nat} (hd : 0 ≤ d) : ∀ (n : Nat) (l1 : Int32) (J : zzJ) (r : Int32 × zzJ), F_X7_image_2 n l1 J = some r → zzEv d 203 2 [.ref 46, .int l1] [] (zK J) (some (.int r.1), zK r.2) := by
  intro n
  induction n with
  | zero => intro l1 J r h; simp [F_X7_image_2] at h
  | succ n ih =>
    intro l1 J r h
    rw [F_X7_image_2] at h
    refine ev_iload_n zo_203_2 rfl rfl rfl ?_
    refine ev_aload_n zo_203_3 rfl rfl rfl rfl ?_
    refine ev_getI zo_203_4 zf_203_85 (by decide) (Or.inl rfl) rfl rfl ?_
    by_cases c1 : l1 < (J.2 46 14)
    · rw [if_pos c1] at h
      refine ev_cmp_f (t := 52) zo_203_7 rfl (zcm_nge c1) rfl ?_
      refine ev_aload_n zo_203_10 rfl rfl rfl rfl ?_
      refine ev_getR zo_203_11 zf_203_53 (by decide) rfl rfl rfl rfl ?_
      refine ev_iload_n zo_203_14 rfl rfl rfl ?_
      refine ev_aload_n zo_203_15 rfl rfl rfl rfl ?_
      refine ev_getR zo_203_16 zf_203_29 (by decide) rfl rfl rfl rfl ?_
      refine ev_iload_n zo_203_19 rfl rfl rfl ?_
      obtain ⟨c2, h⟩ := zz_chk h
      refine ev_iald zo_203_20 rfl c2 rfl ?_
      obtain ⟨c3, h⟩ := zz_chk h
      refine ev_iast zo_203_21 rfl c3 rfl ?_
      refine ev_aload_n zo_203_22 rfl rfl rfl rfl ?_
      refine ev_getR zo_203_23 zf_203_56 (by decide) rfl rfl rfl rfl ?_
      refine ev_iload_n zo_203_26 rfl rfl rfl ?_
      refine ev_aload_n zo_203_27 rfl rfl rfl rfl ?_
      refine ev_getR zo_203_28 zf_203_32 (by decide) rfl rfl rfl rfl ?_
      refine ev_iload_n zo_203_31 rfl rfl rfl ?_
      obtain ⟨c4, h⟩ := zz_chk h
      refine ev_iald zo_203_32 rfl c4 rfl ?_
      obtain ⟨c5, h⟩ := zz_chk h
      refine ev_iast zo_203_33 rfl c5 rfl ?_
      refine ev_aload_n zo_203_34 rfl rfl rfl rfl ?_
      refine ev_getR zo_203_35 zf_203_59 (by decide) rfl rfl rfl rfl ?_
      refine ev_iload_n zo_203_38 rfl rfl rfl ?_
      refine ev_aload_n zo_203_39 rfl rfl rfl rfl ?_
      refine ev_getR zo_203_40 zf_203_35 (by decide) rfl rfl rfl rfl ?_
      refine ev_iload_n zo_203_43 rfl rfl rfl ?_
      obtain ⟨c6, h⟩ := zz_chk h
      refine ev_iald zo_203_44 rfl c6 rfl ?_
      obtain ⟨c7, h⟩ := zz_chk h
      refine ev_iast zo_203_45 rfl c7 rfl ?_
      refine ev_iinc (v := 1) zo_203_46 rfl (by decide) (zz_set rfl (by decide) (Nat.le_of_ble_eq_true rfl)) rfl ?_
      show zzEv _ _ _ [.ref 46, .int (l1 + 1)] _ _ _
      refine ev_goto (t := 2) zo_203_49 rfl ?_
      exact ih (l1 + 1) (wI (wI (wI J 59 l1.toNatClampNeg (J.2 51 l1.toNatClampNeg)) 60 l1.toNatClampNeg ((wI J 59 l1.toNatClampNeg (J.2 51 l1.toNatClampNeg)).2 52 l1.toNatClampNeg)) 61 l1.toNatClampNeg ((wI (wI J 59 l1.toNatClampNeg (J.2 51 l1.toNatClampNeg)) 60 l1.toNatClampNeg ((wI J 59 l1.toNatClampNeg (J.2 51 l1.toNatClampNeg)).2 52 l1.toNatClampNeg)).2 53 l1.toNatClampNeg)) r h
    rw [if_neg c1] at h
    refine ev_cmp_t (t := 52) zo_203_7 rfl (zcm_ge c1) ?_
    refine ev_aload_n zo_203_52 rfl rfl rfl rfl ?_
    refine ev_aload_n zo_203_53 rfl rfl rfl rfl ?_
    refine ev_getI zo_203_54 zf_203_85 (by decide) (Or.inl rfl) rfl rfl ?_
    refine ev_putI zo_203_57 zf_203_62 (by decide) rfl rfl rfl rfl ?_
    refine ev_aload_n zo_203_60 rfl rfl rfl rfl ?_
    refine ev_aload_n zo_203_61 rfl rfl rfl rfl ?_
    refine ev_getI zo_203_62 zf_203_118 (by decide) (Or.inl rfl) rfl rfl ?_
    refine ev_putI zo_203_65 zf_203_365 (by decide) rfl rfl rfl rfl ?_
    refine ev_aload_n zo_203_68 rfl rfl rfl rfl ?_
    refine ev_aload_n zo_203_69 rfl rfl rfl rfl ?_
    refine ev_getI zo_203_70 zf_203_23 (by decide) (Or.inl rfl) rfl rfl ?_
    refine ev_putI zo_203_73 zf_203_368 (by decide) rfl rfl rfl rfl ?_
    refine ev_aload_n zo_203_76 rfl rfl rfl rfl ?_
    refine ev_aload_n zo_203_77 rfl rfl rfl rfl ?_
    refine ev_getI zo_203_78 zf_203_121 (by decide) (Or.inl rfl) rfl rfl ?_
    refine ev_putI zo_203_81 zf_203_371 (by decide) rfl rfl rfl rfl ?_
    refine ev_aload_n zo_203_84 rfl rfl rfl rfl ?_
    refine ev_getI zo_203_85 zf_203_85 (by decide) (Or.inl rfl) rfl rfl ?_
    obtain rfl := Option.some.inj h
    exact ev_retI zo_203_88 zr_203
def F_X7_image (J : zzJ) : Option (Int32 × zzJ) := F_X7_image_2 4096 (0 : Int32) J
set_option maxRecDepth 100000 in
set_option maxHeartbeats 2000000 in
theorem G_X7_image {d : Nat} (hd : 0 ≤ d) (J : zzJ) (r : Int32 × zzJ) (h : F_X7_image J = some r) : zzEv d 203 0 [.ref 46, zzU] [] (zK J) (some (.int r.1), zK r.2) := by
  unfold F_X7_image at h
  refine ev_iconst (x := 0) zo_203_0 (by decide) rfl ?_
  refine ev_istore_n zo_203_1 rfl (zz_set rfl (by decide) (Nat.le_of_ble_eq_true rfl)) rfl ?_
  show zzEv _ _ _ [.ref 46, .int (0 : Int32)] _ _ _
  exact G_X7_image_2 hd 4096 (0 : Int32) J r h
/-! X7_back -/
def F_X7_back_43 : Nat → Int32 → zzJ → Option (Int32 × zzJ)
  | 0, _, _ => none
  | n + 1, l1, J => (if l1 < (J.2 46 14) then (if zzIx l1 8 then (if zzIx l1 8 then (if zzIx l1 8 then (if zzIx l1 8 then (if zzIx l1 8 then (Option.bind (F_X7_seats l1 ((wI (wI J 51 l1.toNatClampNeg (J.2 59 l1.toNatClampNeg)) 52 l1.toNatClampNeg ((wI J 51 l1.toNatClampNeg (J.2 59 l1.toNatClampNeg)).2 60 l1.toNatClampNeg)).2 61 l1.toNatClampNeg) (wI (wI J 51 l1.toNatClampNeg (J.2 59 l1.toNatClampNeg)) 52 l1.toNatClampNeg ((wI J 51 l1.toNatClampNeg (J.2 59 l1.toNatClampNeg)).2 60 l1.toNatClampNeg))) fun q7 => F_X7_back_43 n (l1 + 1) q7) else none) else none) else none) else none) else none) else some (((wI (wI (wI J 46 7 (J.2 46 45)) 46 8 ((wI J 46 7 (J.2 46 45)).2 46 46)) 46 4 ((wI (wI J 46 7 (J.2 46 45)) 46 8 ((wI J 46 7 (J.2 46 45)).2 46 46)).2 46 47)).2 46 14), (wI (wI (wI J 46 7 (J.2 46 45)) 46 8 ((wI J 46 7 (J.2 46 45)).2 46 46)) 46 4 ((wI (wI J 46 7 (J.2 46 45)) 46 8 ((wI J 46 7 (J.2 46 45)).2 46 46)).2 46 47))))
set_option maxRecDepth 100000 in
set_option maxHeartbeats 2000000 in
theorem G_X7_back_43 {d : Nat} (hd : 1 ≤ d) : ∀ (n : Nat) (l1 : Int32) (J : zzJ) (r : Int32 × zzJ), F_X7_back_43 n l1 J = some r → zzEv d 204 43 [.ref 46, .int l1] [] (zK J) (some (.int r.1), zK r.2) := by
  intro n
  induction n with
  | zero => intro l1 J r h; simp [F_X7_back_43] at h
  | succ n ih =>
    intro l1 J r h
    rw [F_X7_back_43] at h
    refine ev_iload_n zo_204_43 rfl rfl rfl ?_
    refine ev_aload_n zo_204_44 rfl rfl rfl rfl ?_
    refine ev_getI zo_204_45 zf_204_85 (by decide) (Or.inl rfl) rfl rfl ?_
    by_cases c1 : l1 < (J.2 46 14)
    · rw [if_pos c1] at h
      refine ev_cmp_f (t := 92) zo_204_48 rfl (zcm_nge c1) rfl ?_
      refine ev_aload_n zo_204_51 rfl rfl rfl rfl ?_
      refine ev_getR zo_204_52 zf_204_29 (by decide) rfl rfl rfl rfl ?_
      refine ev_iload_n zo_204_55 rfl rfl rfl ?_
      refine ev_aload_n zo_204_56 rfl rfl rfl rfl ?_
      refine ev_getR zo_204_57 zf_204_53 (by decide) rfl rfl rfl rfl ?_
      refine ev_iload_n zo_204_60 rfl rfl rfl ?_
      obtain ⟨c2, h⟩ := zz_chk h
      refine ev_iald zo_204_61 rfl c2 rfl ?_
      obtain ⟨c3, h⟩ := zz_chk h
      refine ev_iast zo_204_62 rfl c3 rfl ?_
      refine ev_aload_n zo_204_63 rfl rfl rfl rfl ?_
      refine ev_getR zo_204_64 zf_204_32 (by decide) rfl rfl rfl rfl ?_
      refine ev_iload_n zo_204_67 rfl rfl rfl ?_
      refine ev_aload_n zo_204_68 rfl rfl rfl rfl ?_
      refine ev_getR zo_204_69 zf_204_56 (by decide) rfl rfl rfl rfl ?_
      refine ev_iload_n zo_204_72 rfl rfl rfl ?_
      obtain ⟨c4, h⟩ := zz_chk h
      refine ev_iald zo_204_73 rfl c4 rfl ?_
      obtain ⟨c5, h⟩ := zz_chk h
      refine ev_iast zo_204_74 rfl c5 rfl ?_
      refine ev_aload_n zo_204_75 rfl rfl rfl rfl ?_
      refine ev_iload_n zo_204_76 rfl rfl rfl ?_
      refine ev_aload_n zo_204_77 rfl rfl rfl rfl ?_
      refine ev_getR zo_204_78 zf_204_59 (by decide) rfl rfl rfl rfl ?_
      refine ev_iload_n zo_204_81 rfl rfl rfl ?_
      obtain ⟨c6, h⟩ := zz_chk h
      refine ev_iald zo_204_82 rfl c6 rfl ?_
      obtain ⟨q7, hq7, h⟩ := zz_bd h
      refine ev_cV (as := [.int ((wI (wI J 51 l1.toNatClampNeg (J.2 59 l1.toNatClampNeg)) 52 l1.toNatClampNeg ((wI J 51 l1.toNatClampNeg (J.2 59 l1.toNatClampNeg)).2 60 l1.toNatClampNeg)).2 61 l1.toNatClampNeg), .int l1]) (lsn := [.ref 46, .int l1, .int ((wI (wI J 51 l1.toNatClampNeg (J.2 59 l1.toNatClampNeg)) 52 l1.toNatClampNeg ((wI J 51 l1.toNatClampNeg (J.2 59 l1.toNatClampNeg)).2 60 l1.toNatClampNeg)).2 61 l1.toNatClampNeg)]) (by omega) zo_204_83 zl_204_129 (by rw [zm_146]; rfl) (by rw [zm_146]; exact rfl) (by rw [zm_146]; decide) (by unfold zzIn; rw [zm_146]; rfl) (by rw [zm_146]; exact Nat.le_of_ble_eq_true rfl) (Nat.le_of_ble_eq_true rfl) (G_X7_seats (by omega) l1 ((wI (wI J 51 l1.toNatClampNeg (J.2 59 l1.toNatClampNeg)) 52 l1.toNatClampNeg ((wI J 51 l1.toNatClampNeg (J.2 59 l1.toNatClampNeg)).2 60 l1.toNatClampNeg)).2 61 l1.toNatClampNeg) (wI (wI J 51 l1.toNatClampNeg (J.2 59 l1.toNatClampNeg)) 52 l1.toNatClampNeg ((wI J 51 l1.toNatClampNeg (J.2 59 l1.toNatClampNeg)).2 60 l1.toNatClampNeg)) q7 hq7) rfl ?_
      show zzEv _ _ _ _ [] _ _
      refine ev_iinc (v := 1) zo_204_86 rfl (by decide) (zz_set rfl (by decide) (Nat.le_of_ble_eq_true rfl)) rfl ?_
      show zzEv _ _ _ [.ref 46, .int (l1 + 1)] _ _ _
      refine ev_goto (t := 43) zo_204_89 rfl ?_
      exact ih (l1 + 1) q7 r h
    rw [if_neg c1] at h
    refine ev_cmp_t (t := 92) zo_204_48 rfl (zcm_ge c1) ?_
    refine ev_aload_n zo_204_92 rfl rfl rfl rfl ?_
    refine ev_aload_n zo_204_93 rfl rfl rfl rfl ?_
    refine ev_getI zo_204_94 zf_204_365 (by decide) (Or.inl rfl) rfl rfl ?_
    refine ev_putI zo_204_97 zf_204_118 (by decide) rfl rfl rfl rfl ?_
    refine ev_aload_n zo_204_100 rfl rfl rfl rfl ?_
    refine ev_aload_n zo_204_101 rfl rfl rfl rfl ?_
    refine ev_getI zo_204_102 zf_204_368 (by decide) (Or.inl rfl) rfl rfl ?_
    refine ev_putI zo_204_105 zf_204_23 (by decide) rfl rfl rfl rfl ?_
    refine ev_aload_n zo_204_108 rfl rfl rfl rfl ?_
    refine ev_aload_n zo_204_109 rfl rfl rfl rfl ?_
    refine ev_getI zo_204_110 zf_204_371 (by decide) (Or.inl rfl) rfl rfl ?_
    refine ev_putI zo_204_113 zf_204_121 (by decide) rfl rfl rfl rfl ?_
    refine ev_aload_n zo_204_116 rfl rfl rfl rfl ?_
    refine ev_getI zo_204_117 zf_204_85 (by decide) (Or.inl rfl) rfl rfl ?_
    obtain rfl := Option.some.inj h
    exact ev_retI zo_204_120 zr_204
def F_X7_back_13 : Nat → Int32 → zzJ → Option (Int32 × zzJ)
  | 0, _, _ => none
  | n + 1, l1, J => (if l1 < (J.2 46 14) then (Option.bind (F_X7_seats l1 (-1 : Int32) J) fun q9 => F_X7_back_13 n (l1 + 1) q9) else F_X7_back_43 4096 (0 : Int32) (wI J 46 14 (J.2 46 44)))
set_option maxRecDepth 100000 in
set_option maxHeartbeats 2000000 in
theorem G_X7_back_13 {d : Nat} (hd : 1 ≤ d) : ∀ (n : Nat) (l1 : Int32) (J : zzJ) (r : Int32 × zzJ), F_X7_back_13 n l1 J = some r → zzEv d 204 13 [.ref 46, .int l1] [] (zK J) (some (.int r.1), zK r.2) := by
  intro n
  induction n with
  | zero => intro l1 J r h; simp [F_X7_back_13] at h
  | succ n ih =>
    intro l1 J r h
    rw [F_X7_back_13] at h
    refine ev_iload_n zo_204_13 rfl rfl rfl ?_
    refine ev_aload_n zo_204_14 rfl rfl rfl rfl ?_
    refine ev_getI zo_204_15 zf_204_85 (by decide) (Or.inl rfl) rfl rfl ?_
    by_cases c8 : l1 < (J.2 46 14)
    · rw [if_pos c8] at h
      refine ev_cmp_f (t := 33) zo_204_18 rfl (zcm_nge c8) rfl ?_
      refine ev_aload_n zo_204_21 rfl rfl rfl rfl ?_
      refine ev_iload_n zo_204_22 rfl rfl rfl ?_
      refine ev_iconst (x := (-1)) zo_204_23 (by decide) rfl ?_
      obtain ⟨q9, hq9, h⟩ := zz_bd h
      refine ev_cV (as := [.int (-1 : Int32), .int l1]) (lsn := [.ref 46, .int l1, .int (-1 : Int32)]) (by omega) zo_204_24 zl_204_129 (by rw [zm_146]; rfl) (by rw [zm_146]; exact rfl) (by rw [zm_146]; decide) (by unfold zzIn; rw [zm_146]; rfl) (by rw [zm_146]; exact Nat.le_of_ble_eq_true rfl) (Nat.le_of_ble_eq_true rfl) (G_X7_seats (by omega) l1 (-1 : Int32) J q9 hq9) rfl ?_
      show zzEv _ _ _ _ [] _ _
      refine ev_iinc (v := 1) zo_204_27 rfl (by decide) (zz_set rfl (by decide) (Nat.le_of_ble_eq_true rfl)) rfl ?_
      show zzEv _ _ _ [.ref 46, .int (l1 + 1)] _ _ _
      refine ev_goto (t := 13) zo_204_30 rfl ?_
      exact ih (l1 + 1) q9 r h
    rw [if_neg c8] at h
    refine ev_cmp_t (t := 33) zo_204_18 rfl (zcm_ge c8) ?_
    refine ev_aload_n zo_204_33 rfl rfl rfl rfl ?_
    refine ev_aload_n zo_204_34 rfl rfl rfl rfl ?_
    refine ev_getI zo_204_35 zf_204_62 (by decide) (Or.inl rfl) rfl rfl ?_
    refine ev_putI zo_204_38 zf_204_85 (by decide) rfl rfl rfl rfl ?_
    refine ev_iconst (x := 0) zo_204_41 (by decide) rfl ?_
    refine ev_istore_n zo_204_42 rfl (zz_set rfl (by decide) (Nat.le_of_ble_eq_true rfl)) rfl ?_
    show zzEv _ _ _ [.ref 46, .int (0 : Int32)] _ _ _
    exact G_X7_back_43 hd 4096 (0 : Int32) (wI J 46 14 (J.2 46 44)) r h
def F_X7_back (J : zzJ) : Option (Int32 × zzJ) := (if (J.2 46 44) = (-1 : Int32) then some ((-3 : Int32), J) else F_X7_back_13 4096 (0 : Int32) J)
set_option maxRecDepth 100000 in
set_option maxHeartbeats 2000000 in
theorem G_X7_back {d : Nat} (hd : 1 ≤ d) (J : zzJ) (r : Int32 × zzJ) (h : F_X7_back J = some r) : zzEv d 204 0 [.ref 46, zzU] [] (zK J) (some (.int r.1), zK r.2) := by
  unfold F_X7_back at h
  refine ev_aload_n zo_204_0 rfl rfl rfl rfl ?_
  refine ev_getI zo_204_1 zf_204_62 (by decide) (Or.inl rfl) rfl rfl ?_
  refine ev_iconst (x := (-1)) zo_204_4 (by decide) rfl ?_
  by_cases c10 : (J.2 46 44) = (-1 : Int32)
  · rw [if_pos c10] at h
    refine ev_cmp_f (t := 11) zo_204_5 rfl (zcm_nne c10) rfl ?_
    refine ev_bipush (x := (-3)) zo_204_8 (by decide) rfl ?_
    obtain rfl := Option.some.inj h
    exact ev_retI zo_204_10 zr_204
  rw [if_neg c10] at h
  refine ev_cmp_t (t := 11) zo_204_5 rfl (zcm_ne c10) ?_
  refine ev_iconst (x := 0) zo_204_11 (by decide) rfl ?_
  refine ev_istore_n zo_204_12 rfl (zz_set rfl (by decide) (Nat.le_of_ble_eq_true rfl)) rfl ?_
  show zzEv _ _ _ [.ref 46, .int (0 : Int32)] _ _ _
  exact G_X7_back_13 hd 4096 (0 : Int32) J r h
/-! X7_count -/
def F_X7_count_53 : Nat → Int32 → Int32 → Int32 → zzJ → Option (Int32 × zzJ)
  | 0, _, _, _, _ => none
  | n + 1, l1, l2, l3, J => (if l3 < (J.2 46 14) then (if l1 = (0 : Int32) then F_X7_count_53 n l1 (l2 + (1 : Int32)) (l3 + 1) J else (if zzIx l3 8 then (if (J.2 53 l3.toNatClampNeg) = (-1 : Int32) then F_X7_count_53 n l1 (l2 + (0 : Int32)) (l3 + 1) J else F_X7_count_53 n l1 (l2 + (1 : Int32)) (l3 + 1) J) else none)) else some (l2, J))
set_option maxRecDepth 100000 in
set_option maxHeartbeats 2000000 in
theorem G_X7_count_53 {d : Nat} (hd : 1 ≤ d) : ∀ (n : Nat) (l1 : Int32) (l2 : Int32) (l3 : Int32) (J : zzJ) (r : Int32 × zzJ), F_X7_count_53 n l1 l2 l3 J = some r → zzEv d 205 53 [.ref 46, .int l1, .int l2, .int l3] [] (zK J) (some (.int r.1), zK r.2) := by
  intro n
  induction n with
  | zero => intro l1 l2 l3 J r h; simp [F_X7_count_53] at h
  | succ n ih =>
    intro l1 l2 l3 J r h
    rw [F_X7_count_53] at h
    refine ev_iload_n zo_205_53 rfl rfl rfl ?_
    refine ev_aload_n zo_205_54 rfl rfl rfl rfl ?_
    refine ev_getI zo_205_55 zf_205_85 (by decide) (Or.inl rfl) rfl rfl ?_
    by_cases c1 : l3 < (J.2 46 14)
    · rw [if_pos c1] at h
      refine ev_cmp_f (t := 89) zo_205_58 rfl (zcm_nge c1) rfl ?_
      refine ev_iload_n zo_205_61 rfl rfl rfl ?_
      refine ev_iload_n zo_205_62 rfl rfl rfl ?_
      by_cases c2 : l1 = (0 : Int32)
      · rw [if_pos c2] at h
        refine ev_if_t (t := 76) zo_205_63 rfl (zcm_eq c2) ?_
        refine ev_iconst (x := 1) zo_205_76 (by decide) rfl ?_
        refine ev_goto (t := 81) zo_205_77 rfl ?_
        refine ev_iadd zo_205_81 rfl ?_
        refine ev_istore_n zo_205_82 rfl (zz_set rfl (by decide) (Nat.le_of_ble_eq_true rfl)) rfl ?_
        show zzEv _ _ _ [.ref 46, .int l1, .int (l2 + (1 : Int32)), .int l3] _ _ _
        refine ev_iinc (v := 1) zo_205_83 rfl (by decide) (zz_set rfl (by decide) (Nat.le_of_ble_eq_true rfl)) rfl ?_
        show zzEv _ _ _ [.ref 46, .int l1, .int (l2 + (1 : Int32)), .int (l3 + 1)] _ _ _
        refine ev_goto (t := 53) zo_205_86 rfl ?_
        exact ih l1 (l2 + (1 : Int32)) (l3 + 1) J r h
      rw [if_neg c2] at h
      refine ev_if_f (t := 76) zo_205_63 rfl (zcm_neq c2) rfl ?_
      refine ev_aload_n zo_205_66 rfl rfl rfl rfl ?_
      refine ev_getR zo_205_67 zf_205_35 (by decide) rfl rfl rfl rfl ?_
      refine ev_iload_n zo_205_70 rfl rfl rfl ?_
      obtain ⟨c3, h⟩ := zz_chk h
      refine ev_iald zo_205_71 rfl c3 rfl ?_
      refine ev_iconst (x := (-1)) zo_205_72 (by decide) rfl ?_
      by_cases c4 : (J.2 53 l3.toNatClampNeg) = (-1 : Int32)
      · rw [if_pos c4] at h
        refine ev_cmp_t (t := 80) zo_205_73 rfl (zcm_eq c4) ?_
        refine ev_iconst (x := 0) zo_205_80 (by decide) rfl ?_
        refine ev_iadd zo_205_81 rfl ?_
        refine ev_istore_n zo_205_82 rfl (zz_set rfl (by decide) (Nat.le_of_ble_eq_true rfl)) rfl ?_
        show zzEv _ _ _ [.ref 46, .int l1, .int (l2 + (0 : Int32)), .int l3] _ _ _
        refine ev_iinc (v := 1) zo_205_83 rfl (by decide) (zz_set rfl (by decide) (Nat.le_of_ble_eq_true rfl)) rfl ?_
        show zzEv _ _ _ [.ref 46, .int l1, .int (l2 + (0 : Int32)), .int (l3 + 1)] _ _ _
        refine ev_goto (t := 53) zo_205_86 rfl ?_
        exact ih l1 (l2 + (0 : Int32)) (l3 + 1) J r h
      rw [if_neg c4] at h
      refine ev_cmp_f (t := 80) zo_205_73 rfl (zcm_neq c4) rfl ?_
      refine ev_iconst (x := 1) zo_205_76 (by decide) rfl ?_
      refine ev_goto (t := 81) zo_205_77 rfl ?_
      refine ev_iadd zo_205_81 rfl ?_
      refine ev_istore_n zo_205_82 rfl (zz_set rfl (by decide) (Nat.le_of_ble_eq_true rfl)) rfl ?_
      show zzEv _ _ _ [.ref 46, .int l1, .int (l2 + (1 : Int32)), .int l3] _ _ _
      refine ev_iinc (v := 1) zo_205_83 rfl (by decide) (zz_set rfl (by decide) (Nat.le_of_ble_eq_true rfl)) rfl ?_
      show zzEv _ _ _ [.ref 46, .int l1, .int (l2 + (1 : Int32)), .int (l3 + 1)] _ _ _
      refine ev_goto (t := 53) zo_205_86 rfl ?_
      exact ih l1 (l2 + (1 : Int32)) (l3 + 1) J r h
    rw [if_neg c1] at h
    refine ev_cmp_t (t := 89) zo_205_58 rfl (zcm_ge c1) ?_
    refine ev_iload_n zo_205_89 rfl rfl rfl ?_
    obtain rfl := Option.some.inj h
    exact ev_retI zo_205_90 zr_205
def F_X7_count (x1 : Int32) (J : zzJ) : Option (Int32 × zzJ) := (Option.bind (F_X7_in x1.toInt64 (0 : Int64) (4 : Int64) J) fun q5 => (if q5.1 = (0 : Int32) then some ((-2 : Int32), q5.2) else (if (1 : Int32) < x1 then (if x1 = (2 : Int32) then some ((q5.2.2 46 3), q5.2) else (if x1 = (3 : Int32) then some ((q5.2.2 46 6), q5.2) else some ((q5.2.2 46 4), q5.2))) else F_X7_count_53 4096 x1 (0 : Int32) (0 : Int32) q5.2)))
set_option maxRecDepth 100000 in
set_option maxHeartbeats 2000000 in
theorem G_X7_count {d : Nat} (hd : 1 ≤ d) (x1 : Int32) (J : zzJ) (r : Int32 × zzJ) (h : F_X7_count x1 J = some r) : zzEv d 205 0 [.ref 46, .int x1, zzU, zzU] [] (zK J) (some (.int r.1), zK r.2) := by
  unfold F_X7_count at h
  refine ev_iload_n zo_205_0 rfl rfl rfl ?_
  refine ev_i2l zo_205_1 rfl ?_
  refine ev_lconst (x := 0) zo_205_2 (by decide) rfl ?_
  refine ev_ldc2 zo_205_3 zc_205_374 rfl ?_
  obtain ⟨q5, hq5, h⟩ := zz_bd h
  refine ev_cS (as := [.long (4 : Int64), .long (0 : Int64), .long x1.toInt64]) (lsn := [.long x1.toInt64, zzU, .long (0 : Int64), zzU, .long (4 : Int64), zzU]) (by omega) zo_205_6 zl_205_88 (by decide) (by rw [zm_136]; rfl) (by unfold zzIn; rw [zm_136]; rfl) (by rw [zm_136]; exact Nat.le_of_ble_eq_true rfl) (Nat.le_of_ble_eq_true rfl) (G_X7_in (by omega) x1.toInt64 (0 : Int64) (4 : Int64) J q5 hq5) rfl ?_
  show zzEv _ _ _ _ [.int q5.1] _ _
  by_cases c6 : q5.1 = (0 : Int32)
  · rw [if_pos c6] at h
    refine ev_if_f (t := 15) zo_205_9 rfl (zcm_nne c6) rfl ?_
    refine ev_bipush (x := (-2)) zo_205_12 (by decide) rfl ?_
    obtain rfl := Option.some.inj h
    exact ev_retI zo_205_14 zr_205
  rw [if_neg c6] at h
  refine ev_if_t (t := 15) zo_205_9 rfl (zcm_ne c6) ?_
  refine ev_iload_n zo_205_15 rfl rfl rfl ?_
  refine ev_iconst (x := 1) zo_205_16 (by decide) rfl ?_
  by_cases c7 : (1 : Int32) < x1
  · rw [if_pos c7] at h
    refine ev_cmp_f (t := 49) zo_205_17 rfl (zcm_nle c7) rfl ?_
    refine ev_iload_n zo_205_20 rfl rfl rfl ?_
    refine ev_iconst (x := 2) zo_205_21 (by decide) rfl ?_
    by_cases c8 : x1 = (2 : Int32)
    · rw [if_pos c8] at h
      refine ev_cmp_f (t := 32) zo_205_22 rfl (zcm_nne c8) rfl ?_
      refine ev_aload_n zo_205_25 rfl rfl rfl rfl ?_
      refine ev_getI zo_205_26 zf_205_82 (by decide) (Or.inl rfl) rfl rfl ?_
      refine ev_goto (t := 48) zo_205_29 rfl ?_
      obtain rfl := Option.some.inj h
      exact ev_retI zo_205_48 zr_205
    rw [if_neg c8] at h
    refine ev_cmp_t (t := 32) zo_205_22 rfl (zcm_ne c8) ?_
    refine ev_iload_n zo_205_32 rfl rfl rfl ?_
    refine ev_iconst (x := 3) zo_205_33 (by decide) rfl ?_
    by_cases c9 : x1 = (3 : Int32)
    · rw [if_pos c9] at h
      refine ev_cmp_f (t := 44) zo_205_34 rfl (zcm_nne c9) rfl ?_
      refine ev_aload_n zo_205_37 rfl rfl rfl rfl ?_
      refine ev_getI zo_205_38 zf_205_148 (by decide) (Or.inl rfl) rfl rfl ?_
      refine ev_goto (t := 48) zo_205_41 rfl ?_
      obtain rfl := Option.some.inj h
      exact ev_retI zo_205_48 zr_205
    rw [if_neg c9] at h
    refine ev_cmp_t (t := 44) zo_205_34 rfl (zcm_ne c9) ?_
    refine ev_aload_n zo_205_44 rfl rfl rfl rfl ?_
    refine ev_getI zo_205_45 zf_205_121 (by decide) (Or.inl rfl) rfl rfl ?_
    obtain rfl := Option.some.inj h
    exact ev_retI zo_205_48 zr_205
  rw [if_neg c7] at h
  refine ev_cmp_t (t := 49) zo_205_17 rfl (zcm_le c7) ?_
  refine ev_iconst (x := 0) zo_205_49 (by decide) rfl ?_
  refine ev_istore_n zo_205_50 rfl (zz_set rfl (by decide) (Nat.le_of_ble_eq_true rfl)) rfl ?_
  show zzEv _ _ _ [.ref 46, .int x1, .int (0 : Int32), zzU] _ _ _
  refine ev_iconst (x := 0) zo_205_51 (by decide) rfl ?_
  refine ev_istore_n zo_205_52 rfl (zz_set rfl (by decide) (Nat.le_of_ble_eq_true rfl)) rfl ?_
  show zzEv _ _ _ [.ref 46, .int x1, .int (0 : Int32), .int (0 : Int32)] _ _ _
  exact G_X7_count_53 hd 4096 x1 (0 : Int32) (0 : Int32) q5.2 r h
/-! X7_cell -/
def F_X7_cell (x1 : Int32) (x2 : Int32) (x3 : Int32) (J : zzJ) : Option (Int32 × zzJ) := (Option.bind (F_X7_isSheet x1 J) fun q1 => (if q1.1 = (0 : Int32) then some ((-2 : Int32), q1.2) else (if zzIx x1 4 then (if (q1.2.2 62 x1.toNatClampNeg) = (0 : Int32) then some ((-11 : Int32), q1.2) else (if zzIx x1 4 then (Option.bind (F_X7_in x2.toInt64 (0 : Int64) ((q1.2.2 64 x1.toNatClampNeg) - (1 : Int32)).toInt64 q1.2) fun q6 => (if q6.1 = (0 : Int32) then some ((-12 : Int32), q6.2) else (if zzIx x1 4 then (if (q6.2.2 63 x1.toNatClampNeg) = (0 : Int32) then (if zzIx (((40 : Int32) * x1) + x2) 160 then some ((1 : Int32), (wI q6.2 65 (((40 : Int32) * x1) + x2).toNatClampNeg (x3.toInt8.toInt32))) else none) else (if zzIx x1 4 then (if (q6.2.2 63 x1.toNatClampNeg) = (1 : Int32) then (if zzIx (((40 : Int32) * x1) + x2) 160 then some ((1 : Int32), (wI q6.2 65 (((40 : Int32) * x1) + x2).toNatClampNeg (x3.toInt16.toInt32))) else none) else (if zzIx (((40 : Int32) * x1) + x2) 160 then some ((1 : Int32), (wI q6.2 65 (((40 : Int32) * x1) + x2).toNatClampNeg x3)) else none)) else none)) else none))) else none)) else none)))
set_option maxRecDepth 100000 in
set_option maxHeartbeats 2000000 in
theorem G_X7_cell {d : Nat} (hd : 2 ≤ d) (x1 : Int32) (x2 : Int32) (x3 : Int32) (J : zzJ) (r : Int32 × zzJ) (h : F_X7_cell x1 x2 x3 J = some r) : zzEv d 208 0 [.ref 46, .int x1, .int x2, .int x3] [] (zK J) (some (.int r.1), zK r.2) := by
  unfold F_X7_cell at h
  refine ev_iload_n zo_208_0 rfl rfl rfl ?_
  obtain ⟨q1, hq1, h⟩ := zz_bd h
  refine ev_cS (as := [.int x1]) (lsn := [.int x1]) (by omega) zo_208_1 zl_208_334 (by decide) (by rw [zm_206]; rfl) (by unfold zzIn; rw [zm_206]; rfl) (by rw [zm_206]; exact Nat.le_of_ble_eq_true rfl) (Nat.le_of_ble_eq_true rfl) (G_X7_isSheet (by omega) x1 J q1 hq1) rfl ?_
  show zzEv _ _ _ _ [.int q1.1] _ _
  by_cases c2 : q1.1 = (0 : Int32)
  · rw [if_pos c2] at h
    refine ev_if_f (t := 10) zo_208_4 rfl (zcm_nne c2) rfl ?_
    refine ev_bipush (x := (-2)) zo_208_7 (by decide) rfl ?_
    obtain rfl := Option.some.inj h
    exact ev_retI zo_208_9 zr_208
  rw [if_neg c2] at h
  refine ev_if_t (t := 10) zo_208_4 rfl (zcm_ne c2) ?_
  refine ev_aload_n zo_208_10 rfl rfl rfl rfl ?_
  refine ev_getR zo_208_11 zf_208_65 (by decide) rfl rfl rfl rfl ?_
  refine ev_iload_n zo_208_14 rfl rfl rfl ?_
  obtain ⟨c3, h⟩ := zz_chk h
  refine ev_bald zo_208_15 rfl c3 rfl ?_
  by_cases c4 : (q1.2.2 62 x1.toNatClampNeg) = (0 : Int32)
  · rw [if_pos c4] at h
    refine ev_if_f (t := 22) zo_208_16 rfl (zcm_nne c4) rfl ?_
    refine ev_bipush (x := (-11)) zo_208_19 (by decide) rfl ?_
    obtain rfl := Option.some.inj h
    exact ev_retI zo_208_21 zr_208
  rw [if_neg c4] at h
  refine ev_if_t (t := 22) zo_208_16 rfl (zcm_ne c4) ?_
  refine ev_iload_n zo_208_22 rfl rfl rfl ?_
  refine ev_i2l zo_208_23 rfl ?_
  refine ev_lconst (x := 0) zo_208_24 (by decide) rfl ?_
  refine ev_aload_n zo_208_25 rfl rfl rfl rfl ?_
  refine ev_getR zo_208_26 zf_208_72 (by decide) rfl rfl rfl rfl ?_
  refine ev_iload_n zo_208_29 rfl rfl rfl ?_
  obtain ⟨c5, h⟩ := zz_chk h
  refine ev_iald zo_208_30 rfl c5 rfl ?_
  refine ev_iconst (x := 1) zo_208_31 (by decide) rfl ?_
  refine ev_isub zo_208_32 rfl ?_
  refine ev_i2l zo_208_33 rfl ?_
  obtain ⟨q6, hq6, h⟩ := zz_bd h
  refine ev_cS (as := [.long ((q1.2.2 64 x1.toNatClampNeg) - (1 : Int32)).toInt64, .long (0 : Int64), .long x2.toInt64]) (lsn := [.long x2.toInt64, zzU, .long (0 : Int64), zzU, .long ((q1.2.2 64 x1.toNatClampNeg) - (1 : Int32)).toInt64, zzU]) (by omega) zo_208_34 zl_208_88 (by decide) (by rw [zm_136]; rfl) (by unfold zzIn; rw [zm_136]; rfl) (by rw [zm_136]; exact Nat.le_of_ble_eq_true rfl) (Nat.le_of_ble_eq_true rfl) (G_X7_in (by omega) x2.toInt64 (0 : Int64) ((q1.2.2 64 x1.toNatClampNeg) - (1 : Int32)).toInt64 q1.2 q6 hq6) rfl ?_
  show zzEv _ _ _ _ [.int q6.1] _ _
  by_cases c7 : q6.1 = (0 : Int32)
  · rw [if_pos c7] at h
    refine ev_if_f (t := 43) zo_208_37 rfl (zcm_nne c7) rfl ?_
    refine ev_bipush (x := (-12)) zo_208_40 (by decide) rfl ?_
    obtain rfl := Option.some.inj h
    exact ev_retI zo_208_42 zr_208
  rw [if_neg c7] at h
  refine ev_if_t (t := 43) zo_208_37 rfl (zcm_ne c7) ?_
  refine ev_aload_n zo_208_43 rfl rfl rfl rfl ?_
  refine ev_getR zo_208_44 zf_208_75 (by decide) rfl rfl rfl rfl ?_
  refine ev_bipush (x := 40) zo_208_47 (by decide) rfl ?_
  refine ev_iload_n zo_208_49 rfl rfl rfl ?_
  refine ev_imul zo_208_50 rfl ?_
  refine ev_iload_n zo_208_51 rfl rfl rfl ?_
  refine ev_iadd zo_208_52 rfl ?_
  refine ev_aload_n zo_208_53 rfl rfl rfl rfl ?_
  refine ev_getR zo_208_54 zf_208_69 (by decide) rfl rfl rfl rfl ?_
  refine ev_iload_n zo_208_57 rfl rfl rfl ?_
  obtain ⟨c8, h⟩ := zz_chk h
  refine ev_iald zo_208_58 rfl c8 rfl ?_
  by_cases c9 : (q6.2.2 63 x1.toNatClampNeg) = (0 : Int32)
  · rw [if_pos c9] at h
    refine ev_if_f (t := 67) zo_208_59 rfl (zcm_nne c9) rfl ?_
    refine ev_iload_n zo_208_62 rfl rfl rfl ?_
    refine ev_i2b zo_208_63 rfl ?_
    refine ev_goto (t := 83) zo_208_64 rfl ?_
    obtain ⟨c14, h⟩ := zz_chk h
    refine ev_iast zo_208_83 rfl c14 rfl ?_
    refine ev_iconst (x := 1) zo_208_84 (by decide) rfl ?_
    obtain rfl := Option.some.inj h
    exact ev_retI zo_208_85 zr_208
  rw [if_neg c9] at h
  refine ev_if_t (t := 67) zo_208_59 rfl (zcm_ne c9) ?_
  refine ev_aload_n zo_208_67 rfl rfl rfl rfl ?_
  refine ev_getR zo_208_68 zf_208_69 (by decide) rfl rfl rfl rfl ?_
  refine ev_iload_n zo_208_71 rfl rfl rfl ?_
  obtain ⟨c10, h⟩ := zz_chk h
  refine ev_iald zo_208_72 rfl c10 rfl ?_
  refine ev_iconst (x := 1) zo_208_73 (by decide) rfl ?_
  by_cases c11 : (q6.2.2 63 x1.toNatClampNeg) = (1 : Int32)
  · rw [if_pos c11] at h
    refine ev_cmp_f (t := 82) zo_208_74 rfl (zcm_nne c11) rfl ?_
    refine ev_iload_n zo_208_77 rfl rfl rfl ?_
    refine ev_i2s zo_208_78 rfl ?_
    refine ev_goto (t := 83) zo_208_79 rfl ?_
    obtain ⟨c13, h⟩ := zz_chk h
    refine ev_iast zo_208_83 rfl c13 rfl ?_
    refine ev_iconst (x := 1) zo_208_84 (by decide) rfl ?_
    obtain rfl := Option.some.inj h
    exact ev_retI zo_208_85 zr_208
  rw [if_neg c11] at h
  refine ev_cmp_t (t := 82) zo_208_74 rfl (zcm_ne c11) ?_
  refine ev_iload_n zo_208_82 rfl rfl rfl ?_
  obtain ⟨c12, h⟩ := zz_chk h
  refine ev_iast zo_208_83 rfl c12 rfl ?_
  refine ev_iconst (x := 1) zo_208_84 (by decide) rfl ?_
  obtain rfl := Option.some.inj h
  exact ev_retI zo_208_85 zr_208
/-! X7_copy -/
def F_X7_copy_145 (kl_121 : Int32 → Int32 → Int32 → Int32 → Int32 → Int32 → Int32 → zzJ → Option (Int32 × zzJ)) (l1 : Int32) (l2 : Int32) (l3 : Int32) (l4 : Int32) (l5 : Int32) (l6 : Int32) (l7 : Int32) (t0 : Int32) (J : zzJ) : Option (Int32 × zzJ) := (if zzIx ((((40 : Int32) * l1) + l2) + t0) 160 then (if zzIx ((((40 : Int32) * l3) + l4) + t0) 160 then kl_121 l1 l2 l3 l4 l5 l6 (l7 + 1) (wI J 65 ((((40 : Int32) * l3) + l4) + t0).toNatClampNeg (J.2 65 ((((40 : Int32) * l1) + l2) + t0).toNatClampNeg)) else none) else none)
set_option maxRecDepth 100000 in
set_option maxHeartbeats 2000000 in
theorem G_X7_copy_145 {d : Nat} (kl_121 : Int32 → Int32 → Int32 → Int32 → Int32 → Int32 → Int32 → zzJ → Option (Int32 × zzJ)) (hkl_121 : ∀ (l1 : Int32) (l2 : Int32) (l3 : Int32) (l4 : Int32) (l5 : Int32) (l6 : Int32) (l7 : Int32) (J : zzJ) (r : Int32 × zzJ), kl_121 l1 l2 l3 l4 l5 l6 l7 J = some r → ∀ (lv8 : Value) (hlv8 : lv8.category = 1), zzEv d 209 121 [.ref 46, .int l1, .int l2, .int l3, .int l4, .int l5, .int l6, .int l7, lv8] [] (zK J) (some (.int r.1), zK r.2)) (hd : 2 ≤ d) : ∀ (l1 : Int32) (l2 : Int32) (l3 : Int32) (l4 : Int32) (l5 : Int32) (l6 : Int32) (l7 : Int32) (t0 : Int32) (J : zzJ) (r : Int32 × zzJ), F_X7_copy_145 kl_121 l1 l2 l3 l4 l5 l6 l7 t0 J = some r → ∀ (lv8 : Value) (hlv8 : lv8.category = 1), zzEv d 209 145 [.ref 46, .int l1, .int l2, .int l3, .int l4, .int l5, .int l6, .int l7, lv8] [.int t0] (zK J) (some (.int r.1), zK r.2) := by
  intro l1 l2 l3 l4 l5 l6 l7 t0 J r h lv8 hlv8
  unfold F_X7_copy_145 at h
  refine ev_istore zo_209_145 (zz_set rfl (by decide) (Nat.le_of_ble_eq_true rfl)) rfl ?_
  show zzEv _ _ _ [.ref 46, .int l1, .int l2, .int l3, .int l4, .int l5, .int l6, .int l7, .int t0] _ _ _
  refine ev_aload_n zo_209_147 rfl rfl rfl rfl ?_
  refine ev_getR zo_209_148 zf_209_75 (by decide) rfl rfl rfl rfl ?_
  refine ev_bipush (x := 40) zo_209_151 (by decide) rfl ?_
  refine ev_iload_n zo_209_153 rfl rfl rfl ?_
  refine ev_imul zo_209_154 rfl ?_
  refine ev_iload zo_209_155 rfl rfl ?_
  refine ev_iadd zo_209_157 rfl ?_
  refine ev_iload zo_209_158 rfl rfl ?_
  refine ev_iadd zo_209_160 rfl ?_
  refine ev_aload_n zo_209_161 rfl rfl rfl rfl ?_
  refine ev_getR zo_209_162 zf_209_75 (by decide) rfl rfl rfl rfl ?_
  refine ev_bipush (x := 40) zo_209_165 (by decide) rfl ?_
  refine ev_iload_n zo_209_167 rfl rfl rfl ?_
  refine ev_imul zo_209_168 rfl ?_
  refine ev_iload_n zo_209_169 rfl rfl rfl ?_
  refine ev_iadd zo_209_170 rfl ?_
  refine ev_iload zo_209_171 rfl rfl ?_
  refine ev_iadd zo_209_173 rfl ?_
  obtain ⟨c1, h⟩ := zz_chk h
  refine ev_iald zo_209_174 rfl c1 rfl ?_
  obtain ⟨c2, h⟩ := zz_chk h
  refine ev_iast zo_209_175 rfl c2 rfl ?_
  refine ev_iinc (v := 1) zo_209_176 rfl (by decide) (zz_set rfl (by decide) (Nat.le_of_ble_eq_true rfl)) rfl ?_
  show zzEv _ _ _ [.ref 46, .int l1, .int l2, .int l3, .int l4, .int l5, .int l6, .int (l7 + 1), .int t0] _ _ _
  refine ev_goto (t := 121) zo_209_179 rfl ?_
  exact hkl_121 l1 l2 l3 l4 l5 l6 (l7 + 1) (wI J 65 ((((40 : Int32) * l3) + l4) + t0).toNatClampNeg (J.2 65 ((((40 : Int32) * l1) + l2) + t0).toNatClampNeg)) r h (.int t0) rfl
def F_X7_copy_121 : Nat → Int32 → Int32 → Int32 → Int32 → Int32 → Int32 → Int32 → zzJ → Option (Int32 × zzJ)
  | 0, _, _, _, _, _, _, _, _ => none
  | n + 1, l1, l2, l3, l4, l5, l6, l7, J => (if l7 < l5 then (if l6 = (0 : Int32) then F_X7_copy_145 (F_X7_copy_121 n) l1 l2 l3 l4 l5 l6 l7 l7 J else F_X7_copy_145 (F_X7_copy_121 n) l1 l2 l3 l4 l5 l6 l7 ((l5 - (1 : Int32)) - l7) J) else some (l5, J))
set_option maxRecDepth 100000 in
set_option maxHeartbeats 2000000 in
theorem G_X7_copy_121 {d : Nat} (hd : 2 ≤ d) : ∀ (n : Nat) (l1 : Int32) (l2 : Int32) (l3 : Int32) (l4 : Int32) (l5 : Int32) (l6 : Int32) (l7 : Int32) (J : zzJ) (r : Int32 × zzJ), F_X7_copy_121 n l1 l2 l3 l4 l5 l6 l7 J = some r → ∀ (lv8 : Value) (hlv8 : lv8.category = 1), zzEv d 209 121 [.ref 46, .int l1, .int l2, .int l3, .int l4, .int l5, .int l6, .int l7, lv8] [] (zK J) (some (.int r.1), zK r.2) := by
  intro n
  induction n with
  | zero => intro l1 l2 l3 l4 l5 l6 l7 J r h; simp [F_X7_copy_121] at h
  | succ n ih =>
    intro l1 l2 l3 l4 l5 l6 l7 J r h lv8 hlv8
    rw [F_X7_copy_121] at h
    refine ev_iload zo_209_121 rfl rfl ?_
    refine ev_iload zo_209_123 rfl rfl ?_
    by_cases c3 : l7 < l5
    · rw [if_pos c3] at h
      refine ev_cmp_f (t := 182) zo_209_125 rfl (zcm_nge c3) rfl ?_
      refine ev_iload zo_209_128 rfl rfl ?_
      by_cases c4 : l6 = (0 : Int32)
      · rw [if_pos c4] at h
        refine ev_if_t (t := 143) zo_209_130 rfl (zcm_eq c4) ?_
        refine ev_iload zo_209_143 rfl rfl ?_
        exact G_X7_copy_145 (F_X7_copy_121 n) ih hd l1 l2 l3 l4 l5 l6 l7 l7 J r h (lv8) hlv8
      rw [if_neg c4] at h
      refine ev_if_f (t := 143) zo_209_130 rfl (zcm_neq c4) rfl ?_
      refine ev_iload zo_209_133 rfl rfl ?_
      refine ev_iconst (x := 1) zo_209_135 (by decide) rfl ?_
      refine ev_isub zo_209_136 rfl ?_
      refine ev_iload zo_209_137 rfl rfl ?_
      refine ev_isub zo_209_139 rfl ?_
      refine ev_goto (t := 145) zo_209_140 rfl ?_
      exact G_X7_copy_145 (F_X7_copy_121 n) ih hd l1 l2 l3 l4 l5 l6 l7 ((l5 - (1 : Int32)) - l7) J r h (lv8) hlv8
    rw [if_neg c3] at h
    refine ev_cmp_t (t := 182) zo_209_125 rfl (zcm_ge c3) ?_
    refine ev_iload zo_209_182 rfl rfl ?_
    obtain rfl := Option.some.inj h
    exact ev_retI zo_209_184 zr_209
def F_X7_copy (x1 : Int32) (x2 : Int32) (x3 : Int32) (x4 : Int32) (x5 : Int32) (J : zzJ) : Option (Int32 × zzJ) := (Option.bind (F_X7_isSheet x1 J) fun q5 => (if q5.1 = (0 : Int32) then some ((-2 : Int32), q5.2) else (Option.bind (F_X7_isSheet x3 q5.2) fun q7 => (if q7.1 = (0 : Int32) then some ((-2 : Int32), q7.2) else (if zzIx x1 4 then (if (q7.2.2 62 x1.toNatClampNeg) = (0 : Int32) then some ((-11 : Int32), q7.2) else (if zzIx x3 4 then (if (q7.2.2 62 x3.toNatClampNeg) = (0 : Int32) then some ((-11 : Int32), q7.2) else (if zzIx x1 4 then (if zzIx x3 4 then (if (q7.2.2 63 x1.toNatClampNeg) = (q7.2.2 63 x3.toNatClampNeg) then (if x5 < (0 : Int32) then some ((-12 : Int32), q7.2) else (if x2 < (0 : Int32) then some ((-12 : Int32), q7.2) else (if x4 < (0 : Int32) then some ((-12 : Int32), q7.2) else (if zzIx x1 4 then (if ((q7.2.2 64 x1.toNatClampNeg) - x5) < x2 then some ((-12 : Int32), q7.2) else (if zzIx x3 4 then (if ((q7.2.2 64 x3.toNatClampNeg) - x5) < x4 then some ((-12 : Int32), q7.2) else (if x1 = x3 then (if x2 < x4 then F_X7_copy_121 4096 x1 x2 x3 x4 x5 (1 : Int32) (0 : Int32) q7.2 else F_X7_copy_121 4096 x1 x2 x3 x4 x5 (0 : Int32) (0 : Int32) q7.2) else F_X7_copy_121 4096 x1 x2 x3 x4 x5 (0 : Int32) (0 : Int32) q7.2)) else none)) else none)))) else some ((-13 : Int32), q7.2)) else none) else none)) else none)) else none)))))
set_option maxRecDepth 100000 in
set_option maxHeartbeats 2000000 in
theorem G_X7_copy {d : Nat} (hd : 2 ≤ d) (x1 : Int32) (x2 : Int32) (x3 : Int32) (x4 : Int32) (x5 : Int32) (J : zzJ) (r : Int32 × zzJ) (h : F_X7_copy x1 x2 x3 x4 x5 J = some r) : zzEv d 209 0 [.ref 46, .int x1, .int x2, .int x3, .int x4, .int x5, zzU, zzU, zzU] [] (zK J) (some (.int r.1), zK r.2) := by
  unfold F_X7_copy at h
  refine ev_iload_n zo_209_0 rfl rfl rfl ?_
  obtain ⟨q5, hq5, h⟩ := zz_bd h
  refine ev_cS (as := [.int x1]) (lsn := [.int x1]) (by omega) zo_209_1 zl_209_334 (by decide) (by rw [zm_206]; rfl) (by unfold zzIn; rw [zm_206]; rfl) (by rw [zm_206]; exact Nat.le_of_ble_eq_true rfl) (Nat.le_of_ble_eq_true rfl) (G_X7_isSheet (by omega) x1 J q5 hq5) rfl ?_
  show zzEv _ _ _ _ [.int q5.1] _ _
  by_cases c6 : q5.1 = (0 : Int32)
  · rw [if_pos c6] at h
    refine ev_if_t (t := 14) zo_209_4 rfl (zcm_eq c6) ?_
    refine ev_bipush (x := (-2)) zo_209_14 (by decide) rfl ?_
    obtain rfl := Option.some.inj h
    exact ev_retI zo_209_16 zr_209
  rw [if_neg c6] at h
  refine ev_if_f (t := 14) zo_209_4 rfl (zcm_neq c6) rfl ?_
  refine ev_iload_n zo_209_7 rfl rfl rfl ?_
  obtain ⟨q7, hq7, h⟩ := zz_bd h
  refine ev_cS (as := [.int x3]) (lsn := [.int x3]) (by omega) zo_209_8 zl_209_334 (by decide) (by rw [zm_206]; rfl) (by unfold zzIn; rw [zm_206]; rfl) (by rw [zm_206]; exact Nat.le_of_ble_eq_true rfl) (Nat.le_of_ble_eq_true rfl) (G_X7_isSheet (by omega) x3 q5.2 q7 hq7) rfl ?_
  show zzEv _ _ _ _ [.int q7.1] _ _
  by_cases c8 : q7.1 = (0 : Int32)
  · rw [if_pos c8] at h
    refine ev_if_f (t := 17) zo_209_11 rfl (zcm_nne c8) rfl ?_
    refine ev_bipush (x := (-2)) zo_209_14 (by decide) rfl ?_
    obtain rfl := Option.some.inj h
    exact ev_retI zo_209_16 zr_209
  rw [if_neg c8] at h
  refine ev_if_t (t := 17) zo_209_11 rfl (zcm_ne c8) ?_
  refine ev_aload_n zo_209_17 rfl rfl rfl rfl ?_
  refine ev_getR zo_209_18 zf_209_65 (by decide) rfl rfl rfl rfl ?_
  refine ev_iload_n zo_209_21 rfl rfl rfl ?_
  obtain ⟨c9, h⟩ := zz_chk h
  refine ev_bald zo_209_22 rfl c9 rfl ?_
  by_cases c10 : (q7.2.2 62 x1.toNatClampNeg) = (0 : Int32)
  · rw [if_pos c10] at h
    refine ev_if_t (t := 35) zo_209_23 rfl (zcm_eq c10) ?_
    refine ev_bipush (x := (-11)) zo_209_35 (by decide) rfl ?_
    obtain rfl := Option.some.inj h
    exact ev_retI zo_209_37 zr_209
  rw [if_neg c10] at h
  refine ev_if_f (t := 35) zo_209_23 rfl (zcm_neq c10) rfl ?_
  refine ev_aload_n zo_209_26 rfl rfl rfl rfl ?_
  refine ev_getR zo_209_27 zf_209_65 (by decide) rfl rfl rfl rfl ?_
  refine ev_iload_n zo_209_30 rfl rfl rfl ?_
  obtain ⟨c11, h⟩ := zz_chk h
  refine ev_bald zo_209_31 rfl c11 rfl ?_
  by_cases c12 : (q7.2.2 62 x3.toNatClampNeg) = (0 : Int32)
  · rw [if_pos c12] at h
    refine ev_if_f (t := 38) zo_209_32 rfl (zcm_nne c12) rfl ?_
    refine ev_bipush (x := (-11)) zo_209_35 (by decide) rfl ?_
    obtain rfl := Option.some.inj h
    exact ev_retI zo_209_37 zr_209
  rw [if_neg c12] at h
  refine ev_if_t (t := 38) zo_209_32 rfl (zcm_ne c12) ?_
  refine ev_aload_n zo_209_38 rfl rfl rfl rfl ?_
  refine ev_getR zo_209_39 zf_209_69 (by decide) rfl rfl rfl rfl ?_
  refine ev_iload_n zo_209_42 rfl rfl rfl ?_
  obtain ⟨c13, h⟩ := zz_chk h
  refine ev_iald zo_209_43 rfl c13 rfl ?_
  refine ev_aload_n zo_209_44 rfl rfl rfl rfl ?_
  refine ev_getR zo_209_45 zf_209_69 (by decide) rfl rfl rfl rfl ?_
  refine ev_iload_n zo_209_48 rfl rfl rfl ?_
  obtain ⟨c14, h⟩ := zz_chk h
  refine ev_iald zo_209_49 rfl c14 rfl ?_
  by_cases c15 : (q7.2.2 63 x1.toNatClampNeg) = (q7.2.2 63 x3.toNatClampNeg)
  · rw [if_pos c15] at h
    refine ev_cmp_t (t := 56) zo_209_50 rfl (zcm_eq c15) ?_
    refine ev_iload zo_209_56 rfl rfl ?_
    by_cases c16 : x5 < (0 : Int32)
    · rw [if_pos c16] at h
      refine ev_if_t (t := 97) zo_209_58 rfl (zcm_lt c16) ?_
      refine ev_bipush (x := (-12)) zo_209_97 (by decide) rfl ?_
      obtain rfl := Option.some.inj h
      exact ev_retI zo_209_99 zr_209
    rw [if_neg c16] at h
    refine ev_if_f (t := 97) zo_209_58 rfl (zcm_nlt c16) rfl ?_
    refine ev_iload_n zo_209_61 rfl rfl rfl ?_
    by_cases c17 : x2 < (0 : Int32)
    · rw [if_pos c17] at h
      refine ev_if_t (t := 97) zo_209_62 rfl (zcm_lt c17) ?_
      refine ev_bipush (x := (-12)) zo_209_97 (by decide) rfl ?_
      obtain rfl := Option.some.inj h
      exact ev_retI zo_209_99 zr_209
    rw [if_neg c17] at h
    refine ev_if_f (t := 97) zo_209_62 rfl (zcm_nlt c17) rfl ?_
    refine ev_iload zo_209_65 rfl rfl ?_
    by_cases c18 : x4 < (0 : Int32)
    · rw [if_pos c18] at h
      refine ev_if_t (t := 97) zo_209_67 rfl (zcm_lt c18) ?_
      refine ev_bipush (x := (-12)) zo_209_97 (by decide) rfl ?_
      obtain rfl := Option.some.inj h
      exact ev_retI zo_209_99 zr_209
    rw [if_neg c18] at h
    refine ev_if_f (t := 97) zo_209_67 rfl (zcm_nlt c18) rfl ?_
    refine ev_iload_n zo_209_70 rfl rfl rfl ?_
    refine ev_aload_n zo_209_71 rfl rfl rfl rfl ?_
    refine ev_getR zo_209_72 zf_209_72 (by decide) rfl rfl rfl rfl ?_
    refine ev_iload_n zo_209_75 rfl rfl rfl ?_
    obtain ⟨c19, h⟩ := zz_chk h
    refine ev_iald zo_209_76 rfl c19 rfl ?_
    refine ev_iload zo_209_77 rfl rfl ?_
    refine ev_isub zo_209_79 rfl ?_
    by_cases c20 : ((q7.2.2 64 x1.toNatClampNeg) - x5) < x2
    · rw [if_pos c20] at h
      refine ev_cmp_t (t := 97) zo_209_80 rfl (zcm_gt c20) ?_
      refine ev_bipush (x := (-12)) zo_209_97 (by decide) rfl ?_
      obtain rfl := Option.some.inj h
      exact ev_retI zo_209_99 zr_209
    rw [if_neg c20] at h
    refine ev_cmp_f (t := 97) zo_209_80 rfl (zcm_ngt c20) rfl ?_
    refine ev_iload zo_209_83 rfl rfl ?_
    refine ev_aload_n zo_209_85 rfl rfl rfl rfl ?_
    refine ev_getR zo_209_86 zf_209_72 (by decide) rfl rfl rfl rfl ?_
    refine ev_iload_n zo_209_89 rfl rfl rfl ?_
    obtain ⟨c21, h⟩ := zz_chk h
    refine ev_iald zo_209_90 rfl c21 rfl ?_
    refine ev_iload zo_209_91 rfl rfl ?_
    refine ev_isub zo_209_93 rfl ?_
    by_cases c22 : ((q7.2.2 64 x3.toNatClampNeg) - x5) < x4
    · rw [if_pos c22] at h
      refine ev_cmp_f (t := 100) zo_209_94 rfl (zcm_nle c22) rfl ?_
      refine ev_bipush (x := (-12)) zo_209_97 (by decide) rfl ?_
      obtain rfl := Option.some.inj h
      exact ev_retI zo_209_99 zr_209
    rw [if_neg c22] at h
    refine ev_cmp_t (t := 100) zo_209_94 rfl (zcm_le c22) ?_
    refine ev_iload_n zo_209_100 rfl rfl rfl ?_
    refine ev_iload_n zo_209_101 rfl rfl rfl ?_
    by_cases c23 : x1 = x3
    · rw [if_pos c23] at h
      refine ev_cmp_f (t := 115) zo_209_102 rfl (zcm_nne c23) rfl ?_
      refine ev_iload_n zo_209_105 rfl rfl rfl ?_
      refine ev_iload zo_209_106 rfl rfl ?_
      by_cases c24 : x2 < x4
      · rw [if_pos c24] at h
        refine ev_cmp_f (t := 115) zo_209_108 rfl (zcm_nge c24) rfl ?_
        refine ev_iconst (x := 1) zo_209_111 (by decide) rfl ?_
        refine ev_goto (t := 116) zo_209_112 rfl ?_
        refine ev_istore zo_209_116 (zz_set rfl (by decide) (Nat.le_of_ble_eq_true rfl)) rfl ?_
        show zzEv _ _ _ [.ref 46, .int x1, .int x2, .int x3, .int x4, .int x5, .int (1 : Int32), zzU, zzU] _ _ _
        refine ev_iconst (x := 0) zo_209_118 (by decide) rfl ?_
        refine ev_istore zo_209_119 (zz_set rfl (by decide) (Nat.le_of_ble_eq_true rfl)) rfl ?_
        show zzEv _ _ _ [.ref 46, .int x1, .int x2, .int x3, .int x4, .int x5, .int (1 : Int32), .int (0 : Int32), zzU] _ _ _
        exact G_X7_copy_121 hd 4096 x1 x2 x3 x4 x5 (1 : Int32) (0 : Int32) q7.2 r h (zzU) rfl
      rw [if_neg c24] at h
      refine ev_cmp_t (t := 115) zo_209_108 rfl (zcm_ge c24) ?_
      refine ev_iconst (x := 0) zo_209_115 (by decide) rfl ?_
      refine ev_istore zo_209_116 (zz_set rfl (by decide) (Nat.le_of_ble_eq_true rfl)) rfl ?_
      show zzEv _ _ _ [.ref 46, .int x1, .int x2, .int x3, .int x4, .int x5, .int (0 : Int32), zzU, zzU] _ _ _
      refine ev_iconst (x := 0) zo_209_118 (by decide) rfl ?_
      refine ev_istore zo_209_119 (zz_set rfl (by decide) (Nat.le_of_ble_eq_true rfl)) rfl ?_
      show zzEv _ _ _ [.ref 46, .int x1, .int x2, .int x3, .int x4, .int x5, .int (0 : Int32), .int (0 : Int32), zzU] _ _ _
      exact G_X7_copy_121 hd 4096 x1 x2 x3 x4 x5 (0 : Int32) (0 : Int32) q7.2 r h (zzU) rfl
    rw [if_neg c23] at h
    refine ev_cmp_t (t := 115) zo_209_102 rfl (zcm_ne c23) ?_
    refine ev_iconst (x := 0) zo_209_115 (by decide) rfl ?_
    refine ev_istore zo_209_116 (zz_set rfl (by decide) (Nat.le_of_ble_eq_true rfl)) rfl ?_
    show zzEv _ _ _ [.ref 46, .int x1, .int x2, .int x3, .int x4, .int x5, .int (0 : Int32), zzU, zzU] _ _ _
    refine ev_iconst (x := 0) zo_209_118 (by decide) rfl ?_
    refine ev_istore zo_209_119 (zz_set rfl (by decide) (Nat.le_of_ble_eq_true rfl)) rfl ?_
    show zzEv _ _ _ [.ref 46, .int x1, .int x2, .int x3, .int x4, .int x5, .int (0 : Int32), .int (0 : Int32), zzU] _ _ _
    exact G_X7_copy_121 hd 4096 x1 x2 x3 x4 x5 (0 : Int32) (0 : Int32) q7.2 r h (zzU) rfl
  rw [if_neg c15] at h
  refine ev_cmp_f (t := 56) zo_209_50 rfl (zcm_neq c15) rfl ?_
  refine ev_bipush (x := (-13)) zo_209_53 (by decide) rfl ?_
  obtain rfl := Option.some.inj h
  exact ev_retI zo_209_55 zr_209
/-! X7_passengers -/
def F_X7_passengers_75 : Nat → Int32 → Int32 → Int32 → Int32 → Int32 → zzJ → Option (Int32 × zzJ)
  | 0, _, _, _, _, _, _ => none
  | n + 1, l1, l3, l4, l5, l6, J => (if l6 < l4 then (if l3 < (0 : Int32) then some ((-12 : Int32), J) else (if zzIx l1 4 then (if (((J.2 64 l1.toNatClampNeg) - ((2 : Int32) * l6)) - (2 : Int32)) < l3 then some ((-12 : Int32), J) else (if zzIx ((((40 : Int32) * l1) + l3) + ((2 : Int32) * l6)) 160 then (if zzIx (((((40 : Int32) * l1) + l3) + ((2 : Int32) * l6)) + (1 : Int32)) 160 then (Option.bind (F_X7_passenger (J.2 65 ((((40 : Int32) * l1) + l3) + ((2 : Int32) * l6)).toNatClampNeg) (J.2 65 (((((40 : Int32) * l1) + l3) + ((2 : Int32) * l6)) + (1 : Int32)).toNatClampNeg) J) fun q7 => (if q7.1 < (0 : Int32) then F_X7_passengers_75 n l1 l3 l4 (l5 + (0 : Int32)) (l6 + 1) q7.2 else F_X7_passengers_75 n l1 l3 l4 (l5 + (1 : Int32)) (l6 + 1) q7.2)) else none) else none)) else none)) else some (l5, J))
set_option maxRecDepth 100000 in
set_option maxHeartbeats 2000000 in
theorem G_X7_passengers_75 {d : Nat} (hd : 2 ≤ d) : ∀ (n : Nat) (l1 : Int32) (l3 : Int32) (l4 : Int32) (l5 : Int32) (l6 : Int32) (J : zzJ) (r : Int32 × zzJ), F_X7_passengers_75 n l1 l3 l4 l5 l6 J = some r → ∀ (lv2 : Value) (hlv2 : lv2.category = 1), ∀ (lv7 : Value) (hlv7 : lv7.category = 1), zzEv d 210 75 [.ref 46, .int l1, lv2, .int l3, .int l4, .int l5, .int l6, lv7] [] (zK J) (some (.int r.1), zK r.2) := by
  intro n
  induction n with
  | zero => intro l1 l3 l4 l5 l6 J r h; simp [F_X7_passengers_75] at h
  | succ n ih =>
    intro l1 l3 l4 l5 l6 J r h lv2 hlv2 lv7 hlv7
    rw [F_X7_passengers_75] at h
    refine ev_iload zo_210_75 rfl rfl ?_
    refine ev_iload zo_210_77 rfl rfl ?_
    by_cases c1 : l6 < l4
    · rw [if_pos c1] at h
      refine ev_cmp_f (t := 158) zo_210_79 rfl (zcm_nge c1) rfl ?_
      refine ev_iload_n zo_210_82 rfl rfl rfl ?_
      by_cases c2 : l3 < (0 : Int32)
      · rw [if_pos c2] at h
        refine ev_if_t (t := 103) zo_210_83 rfl (zcm_lt c2) ?_
        refine ev_bipush (x := (-12)) zo_210_103 (by decide) rfl ?_
        obtain rfl := Option.some.inj h
        exact ev_retI zo_210_105 zr_210
      rw [if_neg c2] at h
      refine ev_if_f (t := 103) zo_210_83 rfl (zcm_nlt c2) rfl ?_
      refine ev_iload_n zo_210_86 rfl rfl rfl ?_
      refine ev_aload_n zo_210_87 rfl rfl rfl rfl ?_
      refine ev_getR zo_210_88 zf_210_72 (by decide) rfl rfl rfl rfl ?_
      refine ev_iload_n zo_210_91 rfl rfl rfl ?_
      obtain ⟨c3, h⟩ := zz_chk h
      refine ev_iald zo_210_92 rfl c3 rfl ?_
      refine ev_iconst (x := 2) zo_210_93 (by decide) rfl ?_
      refine ev_iload zo_210_94 rfl rfl ?_
      refine ev_imul zo_210_96 rfl ?_
      refine ev_isub zo_210_97 rfl ?_
      refine ev_iconst (x := 2) zo_210_98 (by decide) rfl ?_
      refine ev_isub zo_210_99 rfl ?_
      by_cases c4 : (((J.2 64 l1.toNatClampNeg) - ((2 : Int32) * l6)) - (2 : Int32)) < l3
      · rw [if_pos c4] at h
        refine ev_cmp_f (t := 106) zo_210_100 rfl (zcm_nle c4) rfl ?_
        refine ev_bipush (x := (-12)) zo_210_103 (by decide) rfl ?_
        obtain rfl := Option.some.inj h
        exact ev_retI zo_210_105 zr_210
      rw [if_neg c4] at h
      refine ev_cmp_t (t := 106) zo_210_100 rfl (zcm_le c4) ?_
      refine ev_bipush (x := 40) zo_210_106 (by decide) rfl ?_
      refine ev_iload_n zo_210_108 rfl rfl rfl ?_
      refine ev_imul zo_210_109 rfl ?_
      refine ev_iload_n zo_210_110 rfl rfl rfl ?_
      refine ev_iadd zo_210_111 rfl ?_
      refine ev_iconst (x := 2) zo_210_112 (by decide) rfl ?_
      refine ev_iload zo_210_113 rfl rfl ?_
      refine ev_imul zo_210_115 rfl ?_
      refine ev_iadd zo_210_116 rfl ?_
      refine ev_istore zo_210_117 (zz_set rfl (by decide) (Nat.le_of_ble_eq_true rfl)) rfl ?_
      show zzEv _ _ _ [.ref 46, .int l1, lv2, .int l3, .int l4, .int l5, .int l6, .int ((((40 : Int32) * l1) + l3) + ((2 : Int32) * l6))] _ _ _
      refine ev_iload zo_210_119 rfl rfl ?_
      refine ev_aload_n zo_210_121 rfl rfl rfl rfl ?_
      refine ev_aload_n zo_210_122 rfl rfl rfl rfl ?_
      refine ev_getR zo_210_123 zf_210_75 (by decide) rfl rfl rfl rfl ?_
      refine ev_iload zo_210_126 rfl rfl ?_
      obtain ⟨c5, h⟩ := zz_chk h
      refine ev_iald zo_210_128 rfl c5 rfl ?_
      refine ev_aload_n zo_210_129 rfl rfl rfl rfl ?_
      refine ev_getR zo_210_130 zf_210_75 (by decide) rfl rfl rfl rfl ?_
      refine ev_iload zo_210_133 rfl rfl ?_
      refine ev_iconst (x := 1) zo_210_135 (by decide) rfl ?_
      refine ev_iadd zo_210_136 rfl ?_
      obtain ⟨c6, h⟩ := zz_chk h
      refine ev_iald zo_210_137 rfl c6 rfl ?_
      obtain ⟨q7, hq7, h⟩ := zz_bd h
      refine ev_cV (as := [.int (J.2 65 (((((40 : Int32) * l1) + l3) + ((2 : Int32) * l6)) + (1 : Int32)).toNatClampNeg), .int (J.2 65 ((((40 : Int32) * l1) + l3) + ((2 : Int32) * l6)).toNatClampNeg)]) (lsn := [.ref 46, .int (J.2 65 ((((40 : Int32) * l1) + l3) + ((2 : Int32) * l6)).toNatClampNeg), .int (J.2 65 (((((40 : Int32) * l1) + l3) + ((2 : Int32) * l6)) + (1 : Int32)).toNatClampNeg)]) (by omega) zo_210_138 zl_210_380 (by rw [zm_145]; rfl) (by rw [zm_145]; exact rfl) (by rw [zm_145]; decide) (by unfold zzIn; rw [zm_145]; rfl) (by rw [zm_145]; exact Nat.le_of_ble_eq_true rfl) (Nat.le_of_ble_eq_true rfl) (G_X7_passenger (by omega) (J.2 65 ((((40 : Int32) * l1) + l3) + ((2 : Int32) * l6)).toNatClampNeg) (J.2 65 (((((40 : Int32) * l1) + l3) + ((2 : Int32) * l6)) + (1 : Int32)).toNatClampNeg) J q7 hq7) rfl ?_
      show zzEv _ _ _ _ [.int q7.1, .int l5] _ _
      by_cases c8 : q7.1 < (0 : Int32)
      · rw [if_pos c8] at h
        refine ev_if_t (t := 148) zo_210_141 rfl (zcm_lt c8) ?_
        refine ev_iconst (x := 0) zo_210_148 (by decide) rfl ?_
        refine ev_iadd zo_210_149 rfl ?_
        refine ev_istore zo_210_150 (zz_set rfl (by decide) (Nat.le_of_ble_eq_true rfl)) rfl ?_
        show zzEv _ _ _ [.ref 46, .int l1, lv2, .int l3, .int l4, .int (l5 + (0 : Int32)), .int l6, .int ((((40 : Int32) * l1) + l3) + ((2 : Int32) * l6))] _ _ _
        refine ev_iinc (v := 1) zo_210_152 rfl (by decide) (zz_set rfl (by decide) (Nat.le_of_ble_eq_true rfl)) rfl ?_
        show zzEv _ _ _ [.ref 46, .int l1, lv2, .int l3, .int l4, .int (l5 + (0 : Int32)), .int (l6 + 1), .int ((((40 : Int32) * l1) + l3) + ((2 : Int32) * l6))] _ _ _
        refine ev_goto (t := 75) zo_210_155 rfl ?_
        exact ih l1 l3 l4 (l5 + (0 : Int32)) (l6 + 1) q7.2 r h (lv2) hlv2 (.int ((((40 : Int32) * l1) + l3) + ((2 : Int32) * l6))) rfl
      rw [if_neg c8] at h
      refine ev_if_f (t := 148) zo_210_141 rfl (zcm_nlt c8) rfl ?_
      refine ev_iconst (x := 1) zo_210_144 (by decide) rfl ?_
      refine ev_goto (t := 149) zo_210_145 rfl ?_
      refine ev_iadd zo_210_149 rfl ?_
      refine ev_istore zo_210_150 (zz_set rfl (by decide) (Nat.le_of_ble_eq_true rfl)) rfl ?_
      show zzEv _ _ _ [.ref 46, .int l1, lv2, .int l3, .int l4, .int (l5 + (1 : Int32)), .int l6, .int ((((40 : Int32) * l1) + l3) + ((2 : Int32) * l6))] _ _ _
      refine ev_iinc (v := 1) zo_210_152 rfl (by decide) (zz_set rfl (by decide) (Nat.le_of_ble_eq_true rfl)) rfl ?_
      show zzEv _ _ _ [.ref 46, .int l1, lv2, .int l3, .int l4, .int (l5 + (1 : Int32)), .int (l6 + 1), .int ((((40 : Int32) * l1) + l3) + ((2 : Int32) * l6))] _ _ _
      refine ev_goto (t := 75) zo_210_155 rfl ?_
      exact ih l1 l3 l4 (l5 + (1 : Int32)) (l6 + 1) q7.2 r h (lv2) hlv2 (.int ((((40 : Int32) * l1) + l3) + ((2 : Int32) * l6))) rfl
    rw [if_neg c1] at h
    refine ev_cmp_t (t := 158) zo_210_79 rfl (zcm_ge c1) ?_
    refine ev_iload zo_210_158 rfl rfl ?_
    obtain rfl := Option.some.inj h
    exact ev_retI zo_210_160 zr_210
def F_X7_passengers_57 (l1 : Int32) (l3 : Int32) (l4 : Int32) (J : zzJ) : Option (Int32 × zzJ) := (if zzIx l1 4 then (if (J.2 62 l1.toNatClampNeg) = (0 : Int32) then some ((-11 : Int32), J) else F_X7_passengers_75 4096 l1 l3 l4 (0 : Int32) (0 : Int32) J) else none)
set_option maxRecDepth 100000 in
set_option maxHeartbeats 2000000 in
theorem G_X7_passengers_57 {d : Nat} (hd : 2 ≤ d) : ∀ (l1 : Int32) (l3 : Int32) (l4 : Int32) (J : zzJ) (r : Int32 × zzJ), F_X7_passengers_57 l1 l3 l4 J = some r → ∀ (lv2 : Value) (hlv2 : lv2.category = 1), zzEv d 210 57 [.ref 46, .int l1, lv2, .int l3, .int l4, zzU, zzU, zzU] [] (zK J) (some (.int r.1), zK r.2) := by
  intro l1 l3 l4 J r h lv2 hlv2
  unfold F_X7_passengers_57 at h
  refine ev_aload_n zo_210_57 rfl rfl rfl rfl ?_
  refine ev_getR zo_210_58 zf_210_65 (by decide) rfl rfl rfl rfl ?_
  refine ev_iload_n zo_210_61 rfl rfl rfl ?_
  obtain ⟨c9, h⟩ := zz_chk h
  refine ev_bald zo_210_62 rfl c9 rfl ?_
  by_cases c10 : (J.2 62 l1.toNatClampNeg) = (0 : Int32)
  · rw [if_pos c10] at h
    refine ev_if_f (t := 69) zo_210_63 rfl (zcm_nne c10) rfl ?_
    refine ev_bipush (x := (-11)) zo_210_66 (by decide) rfl ?_
    obtain rfl := Option.some.inj h
    exact ev_retI zo_210_68 zr_210
  rw [if_neg c10] at h
  refine ev_if_t (t := 69) zo_210_63 rfl (zcm_ne c10) ?_
  refine ev_iconst (x := 0) zo_210_69 (by decide) rfl ?_
  refine ev_istore zo_210_70 (zz_set rfl (by decide) (Nat.le_of_ble_eq_true rfl)) rfl ?_
  show zzEv _ _ _ [.ref 46, .int l1, lv2, .int l3, .int l4, .int (0 : Int32), zzU, zzU] _ _ _
  refine ev_iconst (x := 0) zo_210_72 (by decide) rfl ?_
  refine ev_istore zo_210_73 (zz_set rfl (by decide) (Nat.le_of_ble_eq_true rfl)) rfl ?_
  show zzEv _ _ _ [.ref 46, .int l1, lv2, .int l3, .int l4, .int (0 : Int32), .int (0 : Int32), zzU] _ _ _
  exact G_X7_passengers_75 hd 4096 l1 l3 l4 (0 : Int32) (0 : Int32) J r h (lv2) hlv2 (zzU) rfl
def F_X7_passengers (x1 : Int32) (x2 : Int32) (x3 : Int32) (x4 : Int32) (J : zzJ) : Option (Int32 × zzJ) := (Option.bind (F_X7_isSheet x1 J) fun q11 => (if q11.1 = (0 : Int32) then some ((-2 : Int32), q11.2) else (Option.bind (F_X7_in x2.toInt64 (0 : Int64) (2 : Int64) q11.2) fun q13 => (if q13.1 = (0 : Int32) then some ((-2 : Int32), q13.2) else (Option.bind (F_X7_in x4.toInt64 (0 : Int64) (8 : Int64) q13.2) fun q15 => (if q15.1 = (0 : Int32) then some ((-2 : Int32), q15.2) else (if zzIx x1 4 then (if (q15.2.2 62 x1.toNatClampNeg) = (0 : Int32) then F_X7_passengers_57 x1 x3 x4 q15.2 else (if zzIx x1 4 then (if (q15.2.2 63 x1.toNatClampNeg) = x2 then F_X7_passengers_57 x1 x3 x4 q15.2 else some ((-13 : Int32), q15.2)) else none)) else none)))))))
set_option maxRecDepth 100000 in
set_option maxHeartbeats 2000000 in
theorem G_X7_passengers {d : Nat} (hd : 2 ≤ d) (x1 : Int32) (x2 : Int32) (x3 : Int32) (x4 : Int32) (J : zzJ) (r : Int32 × zzJ) (h : F_X7_passengers x1 x2 x3 x4 J = some r) : zzEv d 210 0 [.ref 46, .int x1, .int x2, .int x3, .int x4, zzU, zzU, zzU] [] (zK J) (some (.int r.1), zK r.2) := by
  unfold F_X7_passengers at h
  refine ev_iload_n zo_210_0 rfl rfl rfl ?_
  obtain ⟨q11, hq11, h⟩ := zz_bd h
  refine ev_cS (as := [.int x1]) (lsn := [.int x1]) (by omega) zo_210_1 zl_210_334 (by decide) (by rw [zm_206]; rfl) (by unfold zzIn; rw [zm_206]; rfl) (by rw [zm_206]; exact Nat.le_of_ble_eq_true rfl) (Nat.le_of_ble_eq_true rfl) (G_X7_isSheet (by omega) x1 J q11 hq11) rfl ?_
  show zzEv _ _ _ _ [.int q11.1] _ _
  by_cases c12 : q11.1 = (0 : Int32)
  · rw [if_pos c12] at h
    refine ev_if_t (t := 32) zo_210_4 rfl (zcm_eq c12) ?_
    refine ev_bipush (x := (-2)) zo_210_32 (by decide) rfl ?_
    obtain rfl := Option.some.inj h
    exact ev_retI zo_210_34 zr_210
  rw [if_neg c12] at h
  refine ev_if_f (t := 32) zo_210_4 rfl (zcm_neq c12) rfl ?_
  refine ev_iload_n zo_210_7 rfl rfl rfl ?_
  refine ev_i2l zo_210_8 rfl ?_
  refine ev_lconst (x := 0) zo_210_9 (by decide) rfl ?_
  refine ev_ldc2 zo_210_10 zc_210_284 rfl ?_
  obtain ⟨q13, hq13, h⟩ := zz_bd h
  refine ev_cS (as := [.long (2 : Int64), .long (0 : Int64), .long x2.toInt64]) (lsn := [.long x2.toInt64, zzU, .long (0 : Int64), zzU, .long (2 : Int64), zzU]) (by omega) zo_210_13 zl_210_88 (by decide) (by rw [zm_136]; rfl) (by unfold zzIn; rw [zm_136]; rfl) (by rw [zm_136]; exact Nat.le_of_ble_eq_true rfl) (Nat.le_of_ble_eq_true rfl) (G_X7_in (by omega) x2.toInt64 (0 : Int64) (2 : Int64) q11.2 q13 hq13) rfl ?_
  show zzEv _ _ _ _ [.int q13.1] _ _
  by_cases c14 : q13.1 = (0 : Int32)
  · rw [if_pos c14] at h
    refine ev_if_t (t := 32) zo_210_16 rfl (zcm_eq c14) ?_
    refine ev_bipush (x := (-2)) zo_210_32 (by decide) rfl ?_
    obtain rfl := Option.some.inj h
    exact ev_retI zo_210_34 zr_210
  rw [if_neg c14] at h
  refine ev_if_f (t := 32) zo_210_16 rfl (zcm_neq c14) rfl ?_
  refine ev_iload zo_210_19 rfl rfl ?_
  refine ev_i2l zo_210_21 rfl ?_
  refine ev_lconst (x := 0) zo_210_22 (by decide) rfl ?_
  refine ev_ldc2 zo_210_23 zc_210_378 rfl ?_
  obtain ⟨q15, hq15, h⟩ := zz_bd h
  refine ev_cS (as := [.long (8 : Int64), .long (0 : Int64), .long x4.toInt64]) (lsn := [.long x4.toInt64, zzU, .long (0 : Int64), zzU, .long (8 : Int64), zzU]) (by omega) zo_210_26 zl_210_88 (by decide) (by rw [zm_136]; rfl) (by unfold zzIn; rw [zm_136]; rfl) (by rw [zm_136]; exact Nat.le_of_ble_eq_true rfl) (Nat.le_of_ble_eq_true rfl) (G_X7_in (by omega) x4.toInt64 (0 : Int64) (8 : Int64) q13.2 q15 hq15) rfl ?_
  show zzEv _ _ _ _ [.int q15.1] _ _
  by_cases c16 : q15.1 = (0 : Int32)
  · rw [if_pos c16] at h
    refine ev_if_f (t := 35) zo_210_29 rfl (zcm_nne c16) rfl ?_
    refine ev_bipush (x := (-2)) zo_210_32 (by decide) rfl ?_
    obtain rfl := Option.some.inj h
    exact ev_retI zo_210_34 zr_210
  rw [if_neg c16] at h
  refine ev_if_t (t := 35) zo_210_29 rfl (zcm_ne c16) ?_
  refine ev_aload_n zo_210_35 rfl rfl rfl rfl ?_
  refine ev_getR zo_210_36 zf_210_65 (by decide) rfl rfl rfl rfl ?_
  refine ev_iload_n zo_210_39 rfl rfl rfl ?_
  obtain ⟨c17, h⟩ := zz_chk h
  refine ev_bald zo_210_40 rfl c17 rfl ?_
  by_cases c18 : (q15.2.2 62 x1.toNatClampNeg) = (0 : Int32)
  · rw [if_pos c18] at h
    refine ev_if_t (t := 57) zo_210_41 rfl (zcm_eq c18) ?_
    exact G_X7_passengers_57 hd x1 x3 x4 q15.2 r h (.int x2) rfl
  rw [if_neg c18] at h
  refine ev_if_f (t := 57) zo_210_41 rfl (zcm_neq c18) rfl ?_
  refine ev_aload_n zo_210_44 rfl rfl rfl rfl ?_
  refine ev_getR zo_210_45 zf_210_69 (by decide) rfl rfl rfl rfl ?_
  refine ev_iload_n zo_210_48 rfl rfl rfl ?_
  obtain ⟨c19, h⟩ := zz_chk h
  refine ev_iald zo_210_49 rfl c19 rfl ?_
  refine ev_iload_n zo_210_50 rfl rfl rfl ?_
  by_cases c20 : (q15.2.2 63 x1.toNatClampNeg) = x2
  · rw [if_pos c20] at h
    refine ev_cmp_t (t := 57) zo_210_51 rfl (zcm_eq c20) ?_
    exact G_X7_passengers_57 hd x1 x3 x4 q15.2 r h (.int x2) rfl
  rw [if_neg c20] at h
  refine ev_cmp_f (t := 57) zo_210_51 rfl (zcm_neq c20) rfl ?_
  refine ev_bipush (x := (-13)) zo_210_54 (by decide) rfl ?_
  obtain rfl := Option.some.inj h
  exact ev_retI zo_210_56 zr_210
/-! X7_over -/
def F_X7_over (x0 : Int32) (J : zzJ) : Option (Int32 × zzJ) := (if x0 = (0 : Int32) then some ((-1 : Int32), J) else (if x0 = (3 : Int32) then some ((1 : Int32), J) else (if x0 = (4 : Int32) then some ((2 : Int32), J) else some ((0 : Int32), J))))
set_option maxRecDepth 100000 in
set_option maxHeartbeats 2000000 in
theorem G_X7_over {d : Nat} (hd : 0 ≤ d) (x0 : Int32) (J : zzJ) (r : Int32 × zzJ) (h : F_X7_over x0 J = some r) : zzEv d 211 0 [.int x0] [] (zK J) (some (.int r.1), zK r.2) := by
  unfold F_X7_over at h
  refine ev_iload_n zo_211_0 rfl rfl rfl ?_
  by_cases c1 : x0 = (0 : Int32)
  · rw [if_pos c1] at h
    refine ev_if_f (t := 8) zo_211_1 rfl (zcm_nne c1) rfl ?_
    refine ev_iconst (x := (-1)) zo_211_4 (by decide) rfl ?_
    refine ev_goto (t := 27) zo_211_5 rfl ?_
    obtain rfl := Option.some.inj h
    exact ev_retI zo_211_27 zr_211
  rw [if_neg c1] at h
  refine ev_if_t (t := 8) zo_211_1 rfl (zcm_ne c1) ?_
  refine ev_iload_n zo_211_8 rfl rfl rfl ?_
  refine ev_iconst (x := 3) zo_211_9 (by decide) rfl ?_
  by_cases c2 : x0 = (3 : Int32)
  · rw [if_pos c2] at h
    refine ev_cmp_f (t := 17) zo_211_10 rfl (zcm_nne c2) rfl ?_
    refine ev_iconst (x := 1) zo_211_13 (by decide) rfl ?_
    refine ev_goto (t := 27) zo_211_14 rfl ?_
    obtain rfl := Option.some.inj h
    exact ev_retI zo_211_27 zr_211
  rw [if_neg c2] at h
  refine ev_cmp_t (t := 17) zo_211_10 rfl (zcm_ne c2) ?_
  refine ev_iload_n zo_211_17 rfl rfl rfl ?_
  refine ev_iconst (x := 4) zo_211_18 (by decide) rfl ?_
  by_cases c3 : x0 = (4 : Int32)
  · rw [if_pos c3] at h
    refine ev_cmp_f (t := 26) zo_211_19 rfl (zcm_nne c3) rfl ?_
    refine ev_iconst (x := 2) zo_211_22 (by decide) rfl ?_
    refine ev_goto (t := 27) zo_211_23 rfl ?_
    obtain rfl := Option.some.inj h
    exact ev_retI zo_211_27 zr_211
  rw [if_neg c3] at h
  refine ev_cmp_t (t := 26) zo_211_19 rfl (zcm_ne c3) ?_
  refine ev_iconst (x := 0) zo_211_26 (by decide) rfl ?_
  obtain rfl := Option.some.inj h
  exact ev_retI zo_211_27 zr_211
/-! X7_taken -/
def F_X7_taken_51 (l1 : Int32) (l2 : Int32) (l3 : Int32) (J : zzJ) : Option (Int32 × zzJ) := (if l3 = l2 then (if zzIx l1 8 then some ((J.2 51 l1.toNatClampNeg), J) else none) else some ((-13 : Int32), J))
set_option maxRecDepth 100000 in
set_option maxHeartbeats 2000000 in
theorem G_X7_taken_51 {d : Nat} (hd : 2 ≤ d) : ∀ (l1 : Int32) (l2 : Int32) (l3 : Int32) (J : zzJ) (r : Int32 × zzJ), F_X7_taken_51 l1 l2 l3 J = some r → zzEv d 212 51 [.ref 46, .int l1, .int l2, .int l3] [] (zK J) (some (.int r.1), zK r.2) := by
  intro l1 l2 l3 J r h
  unfold F_X7_taken_51 at h
  refine ev_iload_n zo_212_51 rfl rfl rfl ?_
  refine ev_iload_n zo_212_52 rfl rfl rfl ?_
  by_cases c1 : l3 = l2
  · rw [if_pos c1] at h
    refine ev_cmp_f (t := 65) zo_212_53 rfl (zcm_nne c1) rfl ?_
    refine ev_aload_n zo_212_56 rfl rfl rfl rfl ?_
    refine ev_getR zo_212_57 zf_212_29 (by decide) rfl rfl rfl rfl ?_
    refine ev_iload_n zo_212_60 rfl rfl rfl ?_
    obtain ⟨c2, h⟩ := zz_chk h
    refine ev_iald zo_212_61 rfl c2 rfl ?_
    refine ev_goto (t := 67) zo_212_62 rfl ?_
    obtain rfl := Option.some.inj h
    exact ev_retI zo_212_67 zr_212
  rw [if_neg c1] at h
  refine ev_cmp_t (t := 65) zo_212_53 rfl (zcm_ne c1) ?_
  refine ev_bipush (x := (-13)) zo_212_65 (by decide) rfl ?_
  obtain rfl := Option.some.inj h
  exact ev_retI zo_212_67 zr_212
def F_X7_taken_33 : Nat → Int32 → Int32 → Int32 → zzJ → Option (Int32 × zzJ)
  | 0, _, _, _, _ => none
  | n + 1, l1, l2, l3, J => (if l3 = (-1 : Int32) then F_X7_taken_51 l1 l2 l3 J else (if l3 = l2 then F_X7_taken_51 l1 l2 l3 J else (Option.bind (F_X7_over l3 J) fun q5 => F_X7_taken_33 n l1 l2 q5.1 q5.2)))
set_option maxRecDepth 100000 in
set_option maxHeartbeats 2000000 in
theorem G_X7_taken_33 {d : Nat} (hd : 2 ≤ d) : ∀ (n : Nat) (l1 : Int32) (l2 : Int32) (l3 : Int32) (J : zzJ) (r : Int32 × zzJ), F_X7_taken_33 n l1 l2 l3 J = some r → zzEv d 212 33 [.ref 46, .int l1, .int l2, .int l3] [] (zK J) (some (.int r.1), zK r.2) := by
  intro n
  induction n with
  | zero => intro l1 l2 l3 J r h; simp [F_X7_taken_33] at h
  | succ n ih =>
    intro l1 l2 l3 J r h
    rw [F_X7_taken_33] at h
    refine ev_iload_n zo_212_33 rfl rfl rfl ?_
    refine ev_iconst (x := (-1)) zo_212_34 (by decide) rfl ?_
    by_cases c3 : l3 = (-1 : Int32)
    · rw [if_pos c3] at h
      refine ev_cmp_t (t := 51) zo_212_35 rfl (zcm_eq c3) ?_
      exact G_X7_taken_51 hd l1 l2 l3 J r h
    rw [if_neg c3] at h
    refine ev_cmp_f (t := 51) zo_212_35 rfl (zcm_neq c3) rfl ?_
    refine ev_iload_n zo_212_38 rfl rfl rfl ?_
    refine ev_iload_n zo_212_39 rfl rfl rfl ?_
    by_cases c4 : l3 = l2
    · rw [if_pos c4] at h
      refine ev_cmp_t (t := 51) zo_212_40 rfl (zcm_eq c4) ?_
      exact G_X7_taken_51 hd l1 l2 l3 J r h
    rw [if_neg c4] at h
    refine ev_cmp_f (t := 51) zo_212_40 rfl (zcm_neq c4) rfl ?_
    refine ev_iload_n zo_212_43 rfl rfl rfl ?_
    obtain ⟨q5, hq5, h⟩ := zz_bd h
    refine ev_cS (as := [.int l3]) (lsn := [.int l3]) (by omega) zo_212_44 zl_212_383 (by decide) (by rw [zm_211]; rfl) (by unfold zzIn; rw [zm_211]; rfl) (by rw [zm_211]; exact Nat.le_of_ble_eq_true rfl) (Nat.le_of_ble_eq_true rfl) (G_X7_over (by omega) l3 J q5 hq5) rfl ?_
    show zzEv _ _ _ _ [.int q5.1] _ _
    refine ev_istore_n zo_212_47 rfl (zz_set rfl (by decide) (Nat.le_of_ble_eq_true rfl)) rfl ?_
    show zzEv _ _ _ [.ref 46, .int l1, .int l2, .int q5.1] _ _ _
    refine ev_goto (t := 33) zo_212_48 rfl ?_
    exact ih l1 l2 q5.1 q5.2 r h
def F_X7_taken (x1 : Int32) (x2 : Int32) (J : zzJ) : Option (Int32 × zzJ) := (Option.bind (F_X7_in x2.toInt64 (0 : Int64) (5 : Int64) J) fun q6 => (if q6.1 = (0 : Int32) then some ((-2 : Int32), q6.2) else (Option.bind (F_X7_isOne x1 q6.2) fun q8 => (if q8.1 = (0 : Int32) then some ((-11 : Int32), q8.2) else (if zzIx x1 8 then F_X7_taken_33 4096 x1 x2 (q8.2.2 50 x1.toNatClampNeg) q8.2 else none)))))
set_option maxRecDepth 100000 in
set_option maxHeartbeats 2000000 in
theorem G_X7_taken {d : Nat} (hd : 2 ≤ d) (x1 : Int32) (x2 : Int32) (J : zzJ) (r : Int32 × zzJ) (h : F_X7_taken x1 x2 J = some r) : zzEv d 212 0 [.ref 46, .int x1, .int x2, zzU] [] (zK J) (some (.int r.1), zK r.2) := by
  unfold F_X7_taken at h
  refine ev_iload_n zo_212_0 rfl rfl rfl ?_
  refine ev_i2l zo_212_1 rfl ?_
  refine ev_lconst (x := 0) zo_212_2 (by decide) rfl ?_
  refine ev_ldc2 zo_212_3 zc_212_124 rfl ?_
  obtain ⟨q6, hq6, h⟩ := zz_bd h
  refine ev_cS (as := [.long (5 : Int64), .long (0 : Int64), .long x2.toInt64]) (lsn := [.long x2.toInt64, zzU, .long (0 : Int64), zzU, .long (5 : Int64), zzU]) (by omega) zo_212_6 zl_212_88 (by decide) (by rw [zm_136]; rfl) (by unfold zzIn; rw [zm_136]; rfl) (by rw [zm_136]; exact Nat.le_of_ble_eq_true rfl) (Nat.le_of_ble_eq_true rfl) (G_X7_in (by omega) x2.toInt64 (0 : Int64) (5 : Int64) J q6 hq6) rfl ?_
  show zzEv _ _ _ _ [.int q6.1] _ _
  by_cases c7 : q6.1 = (0 : Int32)
  · rw [if_pos c7] at h
    refine ev_if_f (t := 15) zo_212_9 rfl (zcm_nne c7) rfl ?_
    refine ev_bipush (x := (-2)) zo_212_12 (by decide) rfl ?_
    obtain rfl := Option.some.inj h
    exact ev_retI zo_212_14 zr_212
  rw [if_neg c7] at h
  refine ev_if_t (t := 15) zo_212_9 rfl (zcm_ne c7) ?_
  refine ev_aload_n zo_212_15 rfl rfl rfl rfl ?_
  refine ev_iload_n zo_212_16 rfl rfl rfl ?_
  obtain ⟨q8, hq8, h⟩ := zz_bd h
  refine ev_cV (as := [.int x1]) (lsn := [.ref 46, .int x1]) (by omega) zo_212_17 zl_212_94 (by rw [zm_140]; rfl) (by rw [zm_140]; exact rfl) (by rw [zm_140]; decide) (by unfold zzIn; rw [zm_140]; rfl) (by rw [zm_140]; exact Nat.le_of_ble_eq_true rfl) (Nat.le_of_ble_eq_true rfl) (G_X7_isOne (by omega) x1 q6.2 q8 hq8) rfl ?_
  show zzEv _ _ _ _ [.int q8.1] _ _
  by_cases c9 : q8.1 = (0 : Int32)
  · rw [if_pos c9] at h
    refine ev_if_f (t := 26) zo_212_20 rfl (zcm_nne c9) rfl ?_
    refine ev_bipush (x := (-11)) zo_212_23 (by decide) rfl ?_
    obtain rfl := Option.some.inj h
    exact ev_retI zo_212_25 zr_212
  rw [if_neg c9] at h
  refine ev_if_t (t := 26) zo_212_20 rfl (zcm_ne c9) ?_
  refine ev_aload_n zo_212_26 rfl rfl rfl rfl ?_
  refine ev_getR zo_212_27 zf_212_26 (by decide) rfl rfl rfl rfl ?_
  refine ev_iload_n zo_212_30 rfl rfl rfl ?_
  obtain ⟨c10, h⟩ := zz_chk h
  refine ev_iald zo_212_31 rfl c10 rfl ?_
  refine ev_istore_n zo_212_32 rfl (zz_set rfl (by decide) (Nat.le_of_ble_eq_true rfl)) rfl ?_
  show zzEv _ _ _ [.ref 46, .int x1, .int x2, .int (q8.2.2 50 x1.toNatClampNeg)] _ _ _
  exact G_X7_taken_33 hd 4096 x1 x2 (q8.2.2 50 x1.toNatClampNeg) q8.2 r h
