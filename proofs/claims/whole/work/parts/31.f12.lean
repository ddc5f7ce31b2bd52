/-! the methods as functions, and that they are (written by wip/whole/gen2.py) -/
/-! X7_cell -/
def F_X7_cell (x0 : Nat) (x1 : Int32) (x2 : Int32) (x3 : Int32) (J : zzJ) : Option (Int32 × zzJ) := (Option.bind (F_X7_isSheet x1 J) fun q1 => (if q1.1 = (0 : Int32) then some ((-2 : Int32), q1.2) else (if zKd x0 = 7 then (Option.bind (zMR x0 48) fun b4 => (if zKd b4 = 9 then (if zzIx x1 (zSz b4) then (if (q1.2.2 b4 x1.toNatClampNeg) = (0 : Int32) then some ((-11 : Int32), q1.2) else (Option.bind (zMR x0 50) fun b8 => (if zKd b8 = 8 then (if zzIx x1 (zSz b8) then (Option.bind (F_X7_in x2.toInt64 (0 : Int64) ((q1.2.2 b8 x1.toNatClampNeg) - (1 : Int32)).toInt64 q1.2) fun q11 => (if q11.1 = (0 : Int32) then some ((-12 : Int32), q11.2) else (Option.bind (zMR x0 51) fun b13 => (Option.bind (zMR x0 49) fun b14 => (if zKd b14 = 8 then (if zzIx x1 (zSz b14) then (if (q11.2.2 b14 x1.toNatClampNeg) = (0 : Int32) then (if zKd b13 = 8 then (if zzIx (((40 : Int32) * x1) + x2) (zSz b13) then some ((1 : Int32), (wI q11.2 b13 (((40 : Int32) * x1) + x2).toNatClampNeg (x3.toInt8.toInt32))) else none) else none) else (if zzIx x1 (zSz b14) then (if (q11.2.2 b14 x1.toNatClampNeg) = (1 : Int32) then (if zKd b13 = 8 then (if zzIx (((40 : Int32) * x1) + x2) (zSz b13) then some ((1 : Int32), (wI q11.2 b13 (((40 : Int32) * x1) + x2).toNatClampNeg (x3.toInt16.toInt32))) else none) else none) else (if zKd b13 = 8 then (if zzIx (((40 : Int32) * x1) + x2) (zSz b13) then some ((1 : Int32), (wI q11.2 b13 (((40 : Int32) * x1) + x2).toNatClampNeg x3)) else none) else none)) else none)) else none) else none))))) else none) else none))) else none) else none)) else none)))
set_option maxRecDepth 100000 in
set_option maxHeartbeats 2000000 in
theorem G_X7_cell {d : Nat} (hd : 2 ≤ d) (x0 : Nat) (x1 : Int32) (x2 : Int32) (x3 : Int32) (J : zzJ) (r : Int32 × zzJ) (h : F_X7_cell x0 x1 x2 x3 J = some r) : zzEv d 208 0 [.ref x0, .int x1, .int x2, .int x3] [] (zK J) (some (.int r.1), zK r.2) := by
  unfold F_X7_cell at h
  refine ev_iload_n zo_208_0 rfl rfl rfl ?_
  obtain ⟨q1, hq1, h⟩ := zz_bd h
  refine ev_cS (as := [.int x1]) (lsn := [.int x1]) (by omega) zo_208_1 zl_208_334 (by decide) (by rw [zm_206]; rfl) (by unfold zzIn; rw [zm_206]; rfl) (by rw [zm_206]; exact Nat.le_of_ble_eq_true rfl) (Nat.le_of_ble_eq_true rfl) (G_X7_isSheet (by omega) x1 J q1 hq1) rfl ?_
  show zzEv _ _ _ _ [.int q1.1] _ _
  by_cases c2 : q1.1 = (0 : Int32)
  · rw [if_pos c2] at h
    refine ev_if_f (t := 10) zo_208_4 rfl (zcm_nne c2) rfl ?_
    refine ev_bipush (x := (-2)) zo_208_7 (by decide) rfl ?_
    cases h
    exact ev_retI zo_208_9 zr_208
  rw [if_neg c2] at h
  refine ev_if_t (t := 10) zo_208_4 rfl (zcm_ne c2) ?_
  refine ev_aload_n zo_208_10 rfl rfl rfl rfl ?_
  obtain ⟨c3, h⟩ := zz_chk h
  obtain ⟨b4, eb4, h⟩ := zz_bd h
  refine ev_getR zo_208_11 zf_208_65 (by decide) rfl c3 eb4 rfl ?_
  refine ev_iload_n zo_208_14 rfl rfl rfl ?_
  obtain ⟨c5, h⟩ := zz_chk h
  obtain ⟨c6, h⟩ := zz_chk h
  refine ev_bald zo_208_15 c5 c6 rfl ?_
  by_cases c7 : (q1.2.2 b4 x1.toNatClampNeg) = (0 : Int32)
  · rw [if_pos c7] at h
    refine ev_if_f (t := 22) zo_208_16 rfl (zcm_nne c7) rfl ?_
    refine ev_bipush (x := (-11)) zo_208_19 (by decide) rfl ?_
    cases h
    exact ev_retI zo_208_21 zr_208
  rw [if_neg c7] at h
  refine ev_if_t (t := 22) zo_208_16 rfl (zcm_ne c7) ?_
  refine ev_iload_n zo_208_22 rfl rfl rfl ?_
  refine ev_i2l zo_208_23 rfl ?_
  refine ev_lconst (x := 0) zo_208_24 (by decide) rfl ?_
  refine ev_aload_n zo_208_25 rfl rfl rfl rfl ?_
  obtain ⟨b8, eb8, h⟩ := zz_bd h
  refine ev_getR zo_208_26 zf_208_72 (by decide) rfl c3 eb8 rfl ?_
  refine ev_iload_n zo_208_29 rfl rfl rfl ?_
  obtain ⟨c9, h⟩ := zz_chk h
  obtain ⟨c10, h⟩ := zz_chk h
  refine ev_iald zo_208_30 c9 c10 rfl ?_
  refine ev_iconst (x := 1) zo_208_31 (by decide) rfl ?_
  refine ev_isub zo_208_32 rfl ?_
  refine ev_i2l zo_208_33 rfl ?_
  obtain ⟨q11, hq11, h⟩ := zz_bd h
  refine ev_cS (as := [.long ((q1.2.2 b8 x1.toNatClampNeg) - (1 : Int32)).toInt64, .long (0 : Int64), .long x2.toInt64]) (lsn := [.long x2.toInt64, zzU, .long (0 : Int64), zzU, .long ((q1.2.2 b8 x1.toNatClampNeg) - (1 : Int32)).toInt64, zzU]) (by omega) zo_208_34 zl_208_88 (by decide) (by rw [zm_136]; rfl) (by unfold zzIn; rw [zm_136]; rfl) (by rw [zm_136]; exact Nat.le_of_ble_eq_true rfl) (Nat.le_of_ble_eq_true rfl) (G_X7_in (by omega) x2.toInt64 (0 : Int64) ((q1.2.2 b8 x1.toNatClampNeg) - (1 : Int32)).toInt64 q1.2 q11 hq11) rfl ?_
  show zzEv _ _ _ _ [.int q11.1] _ _
  by_cases c12 : q11.1 = (0 : Int32)
  · rw [if_pos c12] at h
    refine ev_if_f (t := 43) zo_208_37 rfl (zcm_nne c12) rfl ?_
    refine ev_bipush (x := (-12)) zo_208_40 (by decide) rfl ?_
    cases h
    exact ev_retI zo_208_42 zr_208
  rw [if_neg c12] at h
  refine ev_if_t (t := 43) zo_208_37 rfl (zcm_ne c12) ?_
  refine ev_aload_n zo_208_43 rfl rfl rfl rfl ?_
  obtain ⟨b13, eb13, h⟩ := zz_bd h
  refine ev_getR zo_208_44 zf_208_75 (by decide) rfl c3 eb13 rfl ?_
  refine ev_bipush (x := 40) zo_208_47 (by decide) rfl ?_
  refine ev_iload_n zo_208_49 rfl rfl rfl ?_
  refine ev_imul zo_208_50 rfl ?_
  refine ev_iload_n zo_208_51 rfl rfl rfl ?_
  refine ev_iadd zo_208_52 rfl ?_
  refine ev_aload_n zo_208_53 rfl rfl rfl rfl ?_
  obtain ⟨b14, eb14, h⟩ := zz_bd h
  refine ev_getR zo_208_54 zf_208_69 (by decide) rfl c3 eb14 rfl ?_
  refine ev_iload_n zo_208_57 rfl rfl rfl ?_
  obtain ⟨c15, h⟩ := zz_chk h
  obtain ⟨c16, h⟩ := zz_chk h
  refine ev_iald zo_208_58 c15 c16 rfl ?_
  by_cases c17 : (q11.2.2 b14 x1.toNatClampNeg) = (0 : Int32)
  · rw [if_pos c17] at h
    refine ev_if_f (t := 67) zo_208_59 rfl (zcm_nne c17) rfl ?_
    refine ev_iload_n zo_208_62 rfl rfl rfl ?_
    refine ev_i2b zo_208_63 rfl ?_
    refine ev_goto (t := 83) zo_208_64 rfl ?_
    obtain ⟨c24, h⟩ := zz_chk h
    obtain ⟨c25, h⟩ := zz_chk h
    refine ev_iast zo_208_83 c24 c25 rfl ?_
    refine ev_iconst (x := 1) zo_208_84 (by decide) rfl ?_
    cases h
    exact ev_retI zo_208_85 zr_208
  rw [if_neg c17] at h
  refine ev_if_t (t := 67) zo_208_59 rfl (zcm_ne c17) ?_
  refine ev_aload_n zo_208_67 rfl rfl rfl rfl ?_
  refine ev_getR zo_208_68 zf_208_69 (by decide) rfl c3 eb14 rfl ?_
  refine ev_iload_n zo_208_71 rfl rfl rfl ?_
  obtain ⟨c18, h⟩ := zz_chk h
  refine ev_iald zo_208_72 c15 c18 rfl ?_
  refine ev_iconst (x := 1) zo_208_73 (by decide) rfl ?_
  by_cases c19 : (q11.2.2 b14 x1.toNatClampNeg) = (1 : Int32)
  · rw [if_pos c19] at h
    refine ev_cmp_f (t := 82) zo_208_74 rfl (zcm_nne c19) rfl ?_
    refine ev_iload_n zo_208_77 rfl rfl rfl ?_
    refine ev_i2s zo_208_78 rfl ?_
    refine ev_goto (t := 83) zo_208_79 rfl ?_
    obtain ⟨c22, h⟩ := zz_chk h
    obtain ⟨c23, h⟩ := zz_chk h
    refine ev_iast zo_208_83 c22 c23 rfl ?_
    refine ev_iconst (x := 1) zo_208_84 (by decide) rfl ?_
    cases h
    exact ev_retI zo_208_85 zr_208
  rw [if_neg c19] at h
  refine ev_cmp_t (t := 82) zo_208_74 rfl (zcm_ne c19) ?_
  refine ev_iload_n zo_208_82 rfl rfl rfl ?_
  obtain ⟨c20, h⟩ := zz_chk h
  obtain ⟨c21, h⟩ := zz_chk h
  refine ev_iast zo_208_83 c20 c21 rfl ?_
  refine ev_iconst (x := 1) zo_208_84 (by decide) rfl ?_
  cases h
  exact ev_retI zo_208_85 zr_208
/-! X7_copy -/
def F_X7_copy_145 (kl_121 : Nat → Int32 → Int32 → Int32 → Int32 → Int32 → Int32 → Int32 → zzJ → Option (Int32 × zzJ)) (l0 : Nat) (l1 : Int32) (l2 : Int32) (l3 : Int32) (l4 : Int32) (l5 : Int32) (l6 : Int32) (l7 : Int32) (t0 : Int32) (J : zzJ) : Option (Int32 × zzJ) := (if zKd l0 = 7 then (Option.bind (zMR l0 51) fun b2 => (if zKd b2 = 8 then (if zzIx ((((40 : Int32) * l1) + l2) + t0) (zSz b2) then (if zzIx ((((40 : Int32) * l3) + l4) + t0) (zSz b2) then kl_121 l0 l1 l2 l3 l4 l5 l6 (l7 + 1) (wI J b2 ((((40 : Int32) * l3) + l4) + t0).toNatClampNeg (J.2 b2 ((((40 : Int32) * l1) + l2) + t0).toNatClampNeg)) else none) else none) else none)) else none)
set_option maxRecDepth 100000 in
set_option maxHeartbeats 2000000 in
theorem G_X7_copy_145 {d : Nat} (kl_121 : Nat → Int32 → Int32 → Int32 → Int32 → Int32 → Int32 → Int32 → zzJ → Option (Int32 × zzJ)) (hkl_121 : ∀ (l0 : Nat) (l1 : Int32) (l2 : Int32) (l3 : Int32) (l4 : Int32) (l5 : Int32) (l6 : Int32) (l7 : Int32) (J : zzJ) (r : Int32 × zzJ), kl_121 l0 l1 l2 l3 l4 l5 l6 l7 J = some r → ∀ (lv8 : Value) (hlv8 : lv8.category = 1), zzEv d 209 121 [.ref l0, .int l1, .int l2, .int l3, .int l4, .int l5, .int l6, .int l7, lv8] [] (zK J) (some (.int r.1), zK r.2)) (hd : 2 ≤ d) : ∀ (l0 : Nat) (l1 : Int32) (l2 : Int32) (l3 : Int32) (l4 : Int32) (l5 : Int32) (l6 : Int32) (l7 : Int32) (t0 : Int32) (J : zzJ) (r : Int32 × zzJ), F_X7_copy_145 kl_121 l0 l1 l2 l3 l4 l5 l6 l7 t0 J = some r → ∀ (lv8 : Value) (hlv8 : lv8.category = 1), zzEv d 209 145 [.ref l0, .int l1, .int l2, .int l3, .int l4, .int l5, .int l6, .int l7, lv8] [.int t0] (zK J) (some (.int r.1), zK r.2) := by
  intro l0 l1 l2 l3 l4 l5 l6 l7 t0 J r h lv8 hlv8
  unfold F_X7_copy_145 at h
  refine ev_istore zo_209_145 (zz_set rfl (by decide) (Nat.le_of_ble_eq_true rfl)) rfl ?_
  show zzEv _ _ _ [.ref l0, .int l1, .int l2, .int l3, .int l4, .int l5, .int l6, .int l7, .int t0] _ _ _
  refine ev_aload_n zo_209_147 rfl rfl rfl rfl ?_
  obtain ⟨c1, h⟩ := zz_chk h
  obtain ⟨b2, eb2, h⟩ := zz_bd h
  refine ev_getR zo_209_148 zf_209_75 (by decide) rfl c1 eb2 rfl ?_
  refine ev_bipush (x := 40) zo_209_151 (by decide) rfl ?_
  refine ev_iload_n zo_209_153 rfl rfl rfl ?_
  refine ev_imul zo_209_154 rfl ?_
  refine ev_iload zo_209_155 rfl rfl ?_
  refine ev_iadd zo_209_157 rfl ?_
  refine ev_iload zo_209_158 rfl rfl ?_
  refine ev_iadd zo_209_160 rfl ?_
  refine ev_aload_n zo_209_161 rfl rfl rfl rfl ?_
  refine ev_getR zo_209_162 zf_209_75 (by decide) rfl c1 eb2 rfl ?_
  refine ev_bipush (x := 40) zo_209_165 (by decide) rfl ?_
  refine ev_iload_n zo_209_167 rfl rfl rfl ?_
  refine ev_imul zo_209_168 rfl ?_
  refine ev_iload_n zo_209_169 rfl rfl rfl ?_
  refine ev_iadd zo_209_170 rfl ?_
  refine ev_iload zo_209_171 rfl rfl ?_
  refine ev_iadd zo_209_173 rfl ?_
  obtain ⟨c3, h⟩ := zz_chk h
  obtain ⟨c4, h⟩ := zz_chk h
  refine ev_iald zo_209_174 c3 c4 rfl ?_
  obtain ⟨c5, h⟩ := zz_chk h
  refine ev_iast zo_209_175 c3 c5 rfl ?_
  refine ev_iinc (v := 1) zo_209_176 rfl (by decide) (zz_set rfl (by decide) (Nat.le_of_ble_eq_true rfl)) rfl ?_
  show zzEv _ _ _ [.ref l0, .int l1, .int l2, .int l3, .int l4, .int l5, .int l6, .int (l7 + 1), .int t0] _ _ _
  refine ev_goto (t := 121) zo_209_179 rfl ?_
  exact hkl_121 l0 l1 l2 l3 l4 l5 l6 (l7 + 1) (wI J b2 ((((40 : Int32) * l3) + l4) + t0).toNatClampNeg (J.2 b2 ((((40 : Int32) * l1) + l2) + t0).toNatClampNeg)) r h (.int t0) rfl
def F_X7_copy_121 : Nat → Nat → Int32 → Int32 → Int32 → Int32 → Int32 → Int32 → Int32 → zzJ → Option (Int32 × zzJ)
  | 0, _, _, _, _, _, _, _, _, _ => none
  | n + 1, l0, l1, l2, l3, l4, l5, l6, l7, J => (if l7 < l5 then (if l6 = (0 : Int32) then F_X7_copy_145 (F_X7_copy_121 n) l0 l1 l2 l3 l4 l5 l6 l7 l7 J else F_X7_copy_145 (F_X7_copy_121 n) l0 l1 l2 l3 l4 l5 l6 l7 ((l5 - (1 : Int32)) - l7) J) else some (l5, J))
set_option maxRecDepth 100000 in
set_option maxHeartbeats 2000000 in
theorem G_X7_copy_121 {d : Nat} (hd : 2 ≤ d) : ∀ (n : Nat) (l0 : Nat) (l1 : Int32) (l2 : Int32) (l3 : Int32) (l4 : Int32) (l5 : Int32) (l6 : Int32) (l7 : Int32) (J : zzJ) (r : Int32 × zzJ), F_X7_copy_121 n l0 l1 l2 l3 l4 l5 l6 l7 J = some r → ∀ (lv8 : Value) (hlv8 : lv8.category = 1), zzEv d 209 121 [.ref l0, .int l1, .int l2, .int l3, .int l4, .int l5, .int l6, .int l7, lv8] [] (zK J) (some (.int r.1), zK r.2) := by
  intro n
  induction n with
  | zero => intro l0 l1 l2 l3 l4 l5 l6 l7 J r h; simp [F_X7_copy_121] at h
  | succ n ih =>
    intro l0 l1 l2 l3 l4 l5 l6 l7 J r h lv8 hlv8
    rw [F_X7_copy_121] at h
    refine ev_iload zo_209_121 rfl rfl ?_
    refine ev_iload zo_209_123 rfl rfl ?_
    by_cases c6 : l7 < l5
    · rw [if_pos c6] at h
      refine ev_cmp_f (t := 182) zo_209_125 rfl (zcm_nge c6) rfl ?_
      refine ev_iload zo_209_128 rfl rfl ?_
      by_cases c7 : l6 = (0 : Int32)
      · rw [if_pos c7] at h
        refine ev_if_t (t := 143) zo_209_130 rfl (zcm_eq c7) ?_
        refine ev_iload zo_209_143 rfl rfl ?_
        exact G_X7_copy_145 (F_X7_copy_121 n) ih hd l0 l1 l2 l3 l4 l5 l6 l7 l7 J r h (lv8) hlv8
      rw [if_neg c7] at h
      refine ev_if_f (t := 143) zo_209_130 rfl (zcm_neq c7) rfl ?_
      refine ev_iload zo_209_133 rfl rfl ?_
      refine ev_iconst (x := 1) zo_209_135 (by decide) rfl ?_
      refine ev_isub zo_209_136 rfl ?_
      refine ev_iload zo_209_137 rfl rfl ?_
      refine ev_isub zo_209_139 rfl ?_
      refine ev_goto (t := 145) zo_209_140 rfl ?_
      exact G_X7_copy_145 (F_X7_copy_121 n) ih hd l0 l1 l2 l3 l4 l5 l6 l7 ((l5 - (1 : Int32)) - l7) J r h (lv8) hlv8
    rw [if_neg c6] at h
    refine ev_cmp_t (t := 182) zo_209_125 rfl (zcm_ge c6) ?_
    refine ev_iload zo_209_182 rfl rfl ?_
    cases h
    exact ev_retI zo_209_184 zr_209
def F_X7_copy (x0 : Nat) (x1 : Int32) (x2 : Int32) (x3 : Int32) (x4 : Int32) (x5 : Int32) (J : zzJ) : Option (Int32 × zzJ) := (Option.bind (F_X7_isSheet x1 J) fun q8 => (if q8.1 = (0 : Int32) then some ((-2 : Int32), q8.2) else (Option.bind (F_X7_isSheet x3 q8.2) fun q10 => (if q10.1 = (0 : Int32) then some ((-2 : Int32), q10.2) else (if zKd x0 = 7 then (Option.bind (zMR x0 48) fun b13 => (if zKd b13 = 9 then (if zzIx x1 (zSz b13) then (if (q10.2.2 b13 x1.toNatClampNeg) = (0 : Int32) then some ((-11 : Int32), q10.2) else (if zzIx x3 (zSz b13) then (if (q10.2.2 b13 x3.toNatClampNeg) = (0 : Int32) then some ((-11 : Int32), q10.2) else (Option.bind (zMR x0 49) fun b19 => (if zKd b19 = 8 then (if zzIx x1 (zSz b19) then (if zzIx x3 (zSz b19) then (if (q10.2.2 b19 x1.toNatClampNeg) = (q10.2.2 b19 x3.toNatClampNeg) then (if x5 < (0 : Int32) then some ((-12 : Int32), q10.2) else (if x2 < (0 : Int32) then some ((-12 : Int32), q10.2) else (if x4 < (0 : Int32) then some ((-12 : Int32), q10.2) else (Option.bind (zMR x0 50) fun b27 => (if zKd b27 = 8 then (if zzIx x1 (zSz b27) then (if ((q10.2.2 b27 x1.toNatClampNeg) - x5) < x2 then some ((-12 : Int32), q10.2) else (if zzIx x3 (zSz b27) then (if ((q10.2.2 b27 x3.toNatClampNeg) - x5) < x4 then some ((-12 : Int32), q10.2) else (if x1 = x3 then (if x2 < x4 then F_X7_copy_121 4096 x0 x1 x2 x3 x4 x5 (1 : Int32) (0 : Int32) q10.2 else F_X7_copy_121 4096 x0 x1 x2 x3 x4 x5 (0 : Int32) (0 : Int32) q10.2) else F_X7_copy_121 4096 x0 x1 x2 x3 x4 x5 (0 : Int32) (0 : Int32) q10.2)) else none)) else none) else none))))) else some ((-13 : Int32), q10.2)) else none) else none) else none))) else none)) else none) else none)) else none)))))
set_option maxRecDepth 100000 in
set_option maxHeartbeats 2000000 in
theorem G_X7_copy {d : Nat} (hd : 2 ≤ d) (x0 : Nat) (x1 : Int32) (x2 : Int32) (x3 : Int32) (x4 : Int32) (x5 : Int32) (J : zzJ) (r : Int32 × zzJ) (h : F_X7_copy x0 x1 x2 x3 x4 x5 J = some r) : zzEv d 209 0 [.ref x0, .int x1, .int x2, .int x3, .int x4, .int x5, zzU, zzU, zzU] [] (zK J) (some (.int r.1), zK r.2) := by
  unfold F_X7_copy at h
  refine ev_iload_n zo_209_0 rfl rfl rfl ?_
  obtain ⟨q8, hq8, h⟩ := zz_bd h
  refine ev_cS (as := [.int x1]) (lsn := [.int x1]) (by omega) zo_209_1 zl_209_334 (by decide) (by rw [zm_206]; rfl) (by unfold zzIn; rw [zm_206]; rfl) (by rw [zm_206]; exact Nat.le_of_ble_eq_true rfl) (Nat.le_of_ble_eq_true rfl) (G_X7_isSheet (by omega) x1 J q8 hq8) rfl ?_
  show zzEv _ _ _ _ [.int q8.1] _ _
  by_cases c9 : q8.1 = (0 : Int32)
  · rw [if_pos c9] at h
    refine ev_if_t (t := 14) zo_209_4 rfl (zcm_eq c9) ?_
    refine ev_bipush (x := (-2)) zo_209_14 (by decide) rfl ?_
    cases h
    exact ev_retI zo_209_16 zr_209
  rw [if_neg c9] at h
  refine ev_if_f (t := 14) zo_209_4 rfl (zcm_neq c9) rfl ?_
  refine ev_iload_n zo_209_7 rfl rfl rfl ?_
  obtain ⟨q10, hq10, h⟩ := zz_bd h
  refine ev_cS (as := [.int x3]) (lsn := [.int x3]) (by omega) zo_209_8 zl_209_334 (by decide) (by rw [zm_206]; rfl) (by unfold zzIn; rw [zm_206]; rfl) (by rw [zm_206]; exact Nat.le_of_ble_eq_true rfl) (Nat.le_of_ble_eq_true rfl) (G_X7_isSheet (by omega) x3 q8.2 q10 hq10) rfl ?_
  show zzEv _ _ _ _ [.int q10.1] _ _
  by_cases c11 : q10.1 = (0 : Int32)
  · rw [if_pos c11] at h
    refine ev_if_f (t := 17) zo_209_11 rfl (zcm_nne c11) rfl ?_
    refine ev_bipush (x := (-2)) zo_209_14 (by decide) rfl ?_
    cases h
    exact ev_retI zo_209_16 zr_209
  rw [if_neg c11] at h
  refine ev_if_t (t := 17) zo_209_11 rfl (zcm_ne c11) ?_
  refine ev_aload_n zo_209_17 rfl rfl rfl rfl ?_
  obtain ⟨c12, h⟩ := zz_chk h
  obtain ⟨b13, eb13, h⟩ := zz_bd h
  refine ev_getR zo_209_18 zf_209_65 (by decide) rfl c12 eb13 rfl ?_
  refine ev_iload_n zo_209_21 rfl rfl rfl ?_
  obtain ⟨c14, h⟩ := zz_chk h
  obtain ⟨c15, h⟩ := zz_chk h
  refine ev_bald zo_209_22 c14 c15 rfl ?_
  by_cases c16 : (q10.2.2 b13 x1.toNatClampNeg) = (0 : Int32)
  · rw [if_pos c16] at h
    refine ev_if_t (t := 35) zo_209_23 rfl (zcm_eq c16) ?_
    refine ev_bipush (x := (-11)) zo_209_35 (by decide) rfl ?_
    cases h
    exact ev_retI zo_209_37 zr_209
  rw [if_neg c16] at h
  refine ev_if_f (t := 35) zo_209_23 rfl (zcm_neq c16) rfl ?_
  refine ev_aload_n zo_209_26 rfl rfl rfl rfl ?_
  refine ev_getR zo_209_27 zf_209_65 (by decide) rfl c12 eb13 rfl ?_
  refine ev_iload_n zo_209_30 rfl rfl rfl ?_
  obtain ⟨c17, h⟩ := zz_chk h
  refine ev_bald zo_209_31 c14 c17 rfl ?_
  by_cases c18 : (q10.2.2 b13 x3.toNatClampNeg) = (0 : Int32)
  · rw [if_pos c18] at h
    refine ev_if_f (t := 38) zo_209_32 rfl (zcm_nne c18) rfl ?_
    refine ev_bipush (x := (-11)) zo_209_35 (by decide) rfl ?_
    cases h
    exact ev_retI zo_209_37 zr_209
  rw [if_neg c18] at h
  refine ev_if_t (t := 38) zo_209_32 rfl (zcm_ne c18) ?_
  refine ev_aload_n zo_209_38 rfl rfl rfl rfl ?_
  obtain ⟨b19, eb19, h⟩ := zz_bd h
  refine ev_getR zo_209_39 zf_209_69 (by decide) rfl c12 eb19 rfl ?_
  refine ev_iload_n zo_209_42 rfl rfl rfl ?_
  obtain ⟨c20, h⟩ := zz_chk h
  obtain ⟨c21, h⟩ := zz_chk h
  refine ev_iald zo_209_43 c20 c21 rfl ?_
  refine ev_aload_n zo_209_44 rfl rfl rfl rfl ?_
  refine ev_getR zo_209_45 zf_209_69 (by decide) rfl c12 eb19 rfl ?_
  refine ev_iload_n zo_209_48 rfl rfl rfl ?_
  obtain ⟨c22, h⟩ := zz_chk h
  refine ev_iald zo_209_49 c20 c22 rfl ?_
  by_cases c23 : (q10.2.2 b19 x1.toNatClampNeg) = (q10.2.2 b19 x3.toNatClampNeg)
  · rw [if_pos c23] at h
    refine ev_cmp_t (t := 56) zo_209_50 rfl (zcm_eq c23) ?_
    refine ev_iload zo_209_56 rfl rfl ?_
    by_cases c24 : x5 < (0 : Int32)
    · rw [if_pos c24] at h
      refine ev_if_t (t := 97) zo_209_58 rfl (zcm_lt c24) ?_
      refine ev_bipush (x := (-12)) zo_209_97 (by decide) rfl ?_
      cases h
      exact ev_retI zo_209_99 zr_209
    rw [if_neg c24] at h
    refine ev_if_f (t := 97) zo_209_58 rfl (zcm_nlt c24) rfl ?_
    refine ev_iload_n zo_209_61 rfl rfl rfl ?_
    by_cases c25 : x2 < (0 : Int32)
    · rw [if_pos c25] at h
      refine ev_if_t (t := 97) zo_209_62 rfl (zcm_lt c25) ?_
      refine ev_bipush (x := (-12)) zo_209_97 (by decide) rfl ?_
      cases h
      exact ev_retI zo_209_99 zr_209
    rw [if_neg c25] at h
    refine ev_if_f (t := 97) zo_209_62 rfl (zcm_nlt c25) rfl ?_
    refine ev_iload zo_209_65 rfl rfl ?_
    by_cases c26 : x4 < (0 : Int32)
    · rw [if_pos c26] at h
      refine ev_if_t (t := 97) zo_209_67 rfl (zcm_lt c26) ?_
      refine ev_bipush (x := (-12)) zo_209_97 (by decide) rfl ?_
      cases h
      exact ev_retI zo_209_99 zr_209
    rw [if_neg c26] at h
    refine ev_if_f (t := 97) zo_209_67 rfl (zcm_nlt c26) rfl ?_
    refine ev_iload_n zo_209_70 rfl rfl rfl ?_
    refine ev_aload_n zo_209_71 rfl rfl rfl rfl ?_
    obtain ⟨b27, eb27, h⟩ := zz_bd h
    refine ev_getR zo_209_72 zf_209_72 (by decide) rfl c12 eb27 rfl ?_
    refine ev_iload_n zo_209_75 rfl rfl rfl ?_
    obtain ⟨c28, h⟩ := zz_chk h
    obtain ⟨c29, h⟩ := zz_chk h
    refine ev_iald zo_209_76 c28 c29 rfl ?_
    refine ev_iload zo_209_77 rfl rfl ?_
    refine ev_isub zo_209_79 rfl ?_
    by_cases c30 : ((q10.2.2 b27 x1.toNatClampNeg) - x5) < x2
    · rw [if_pos c30] at h
      refine ev_cmp_t (t := 97) zo_209_80 rfl (zcm_gt c30) ?_
      refine ev_bipush (x := (-12)) zo_209_97 (by decide) rfl ?_
      cases h
      exact ev_retI zo_209_99 zr_209
    rw [if_neg c30] at h
    refine ev_cmp_f (t := 97) zo_209_80 rfl (zcm_ngt c30) rfl ?_
    refine ev_iload zo_209_83 rfl rfl ?_
    refine ev_aload_n zo_209_85 rfl rfl rfl rfl ?_
    refine ev_getR zo_209_86 zf_209_72 (by decide) rfl c12 eb27 rfl ?_
    refine ev_iload_n zo_209_89 rfl rfl rfl ?_
    obtain ⟨c31, h⟩ := zz_chk h
    refine ev_iald zo_209_90 c28 c31 rfl ?_
    refine ev_iload zo_209_91 rfl rfl ?_
    refine ev_isub zo_209_93 rfl ?_
    by_cases c32 : ((q10.2.2 b27 x3.toNatClampNeg) - x5) < x4
    · rw [if_pos c32] at h
      refine ev_cmp_f (t := 100) zo_209_94 rfl (zcm_nle c32) rfl ?_
      refine ev_bipush (x := (-12)) zo_209_97 (by decide) rfl ?_
      cases h
      exact ev_retI zo_209_99 zr_209
    rw [if_neg c32] at h
    refine ev_cmp_t (t := 100) zo_209_94 rfl (zcm_le c32) ?_
    refine ev_iload_n zo_209_100 rfl rfl rfl ?_
    refine ev_iload_n zo_209_101 rfl rfl rfl ?_
    by_cases c33 : x1 = x3
    · rw [if_pos c33] at h
      refine ev_cmp_f (t := 115) zo_209_102 rfl (zcm_nne c33) rfl ?_
      refine ev_iload_n zo_209_105 rfl rfl rfl ?_
      refine ev_iload zo_209_106 rfl rfl ?_
      by_cases c34 : x2 < x4
      · rw [if_pos c34] at h
        refine ev_cmp_f (t := 115) zo_209_108 rfl (zcm_nge c34) rfl ?_
        refine ev_iconst (x := 1) zo_209_111 (by decide) rfl ?_
        refine ev_goto (t := 116) zo_209_112 rfl ?_
        refine ev_istore zo_209_116 (zz_set rfl (by decide) (Nat.le_of_ble_eq_true rfl)) rfl ?_
        show zzEv _ _ _ [.ref x0, .int x1, .int x2, .int x3, .int x4, .int x5, .int (1 : Int32), zzU, zzU] _ _ _
        refine ev_iconst (x := 0) zo_209_118 (by decide) rfl ?_
        refine ev_istore zo_209_119 (zz_set rfl (by decide) (Nat.le_of_ble_eq_true rfl)) rfl ?_
        show zzEv _ _ _ [.ref x0, .int x1, .int x2, .int x3, .int x4, .int x5, .int (1 : Int32), .int (0 : Int32), zzU] _ _ _
        exact G_X7_copy_121 hd 4096 x0 x1 x2 x3 x4 x5 (1 : Int32) (0 : Int32) q10.2 r h (zzU) rfl
      rw [if_neg c34] at h
      refine ev_cmp_t (t := 115) zo_209_108 rfl (zcm_ge c34) ?_
      refine ev_iconst (x := 0) zo_209_115 (by decide) rfl ?_
      refine ev_istore zo_209_116 (zz_set rfl (by decide) (Nat.le_of_ble_eq_true rfl)) rfl ?_
      show zzEv _ _ _ [.ref x0, .int x1, .int x2, .int x3, .int x4, .int x5, .int (0 : Int32), zzU, zzU] _ _ _
      refine ev_iconst (x := 0) zo_209_118 (by decide) rfl ?_
      refine ev_istore zo_209_119 (zz_set rfl (by decide) (Nat.le_of_ble_eq_true rfl)) rfl ?_
      show zzEv _ _ _ [.ref x0, .int x1, .int x2, .int x3, .int x4, .int x5, .int (0 : Int32), .int (0 : Int32), zzU] _ _ _
      exact G_X7_copy_121 hd 4096 x0 x1 x2 x3 x4 x5 (0 : Int32) (0 : Int32) q10.2 r h (zzU) rfl
    rw [if_neg c33] at h
    refine ev_cmp_t (t := 115) zo_209_102 rfl (zcm_ne c33) ?_
    refine ev_iconst (x := 0) zo_209_115 (by decide) rfl ?_
    refine ev_istore zo_209_116 (zz_set rfl (by decide) (Nat.le_of_ble_eq_true rfl)) rfl ?_
    show zzEv _ _ _ [.ref x0, .int x1, .int x2, .int x3, .int x4, .int x5, .int (0 : Int32), zzU, zzU] _ _ _
    refine ev_iconst (x := 0) zo_209_118 (by decide) rfl ?_
    refine ev_istore zo_209_119 (zz_set rfl (by decide) (Nat.le_of_ble_eq_true rfl)) rfl ?_
    show zzEv _ _ _ [.ref x0, .int x1, .int x2, .int x3, .int x4, .int x5, .int (0 : Int32), .int (0 : Int32), zzU] _ _ _
    exact G_X7_copy_121 hd 4096 x0 x1 x2 x3 x4 x5 (0 : Int32) (0 : Int32) q10.2 r h (zzU) rfl
  rw [if_neg c23] at h
  refine ev_cmp_f (t := 56) zo_209_50 rfl (zcm_neq c23) rfl ?_
  refine ev_bipush (x := (-13)) zo_209_53 (by decide) rfl ?_
  cases h
  exact ev_retI zo_209_55 zr_209
/-! X7_passengers -/
def F_X7_passengers_75 : Nat → Nat → Int32 → Int32 → Int32 → Int32 → Int32 → zzJ → Option (Int32 × zzJ)
  | 0, _, _, _, _, _, _, _ => none
  | n + 1, l0, l1, l3, l4, l5, l6, J => (if l6 < l4 then (if l3 < (0 : Int32) then some ((-12 : Int32), J) else (if zKd l0 = 7 then (Option.bind (zMR l0 50) fun b4 => (if zKd b4 = 8 then (if zzIx l1 (zSz b4) then (if (((J.2 b4 l1.toNatClampNeg) - ((2 : Int32) * l6)) - (2 : Int32)) < l3 then some ((-12 : Int32), J) else (Option.bind (zMR l0 51) fun b8 => (if zKd b8 = 8 then (if zzIx ((((40 : Int32) * l1) + l3) + ((2 : Int32) * l6)) (zSz b8) then (if zzIx (((((40 : Int32) * l1) + l3) + ((2 : Int32) * l6)) + (1 : Int32)) (zSz b8) then (Option.bind (F_X7_passenger l0 (J.2 b8 ((((40 : Int32) * l1) + l3) + ((2 : Int32) * l6)).toNatClampNeg) (J.2 b8 (((((40 : Int32) * l1) + l3) + ((2 : Int32) * l6)) + (1 : Int32)).toNatClampNeg) J) fun q12 => (if q12.1 < (0 : Int32) then F_X7_passengers_75 n l0 l1 l3 l4 (l5 + (0 : Int32)) (l6 + 1) q12.2 else F_X7_passengers_75 n l0 l1 l3 l4 (l5 + (1 : Int32)) (l6 + 1) q12.2)) else none) else none) else none))) else none) else none)) else none)) else some (l5, J))
set_option maxRecDepth 100000 in
set_option maxHeartbeats 2000000 in
theorem G_X7_passengers_75 {d : Nat} (hd : 2 ≤ d) : ∀ (n : Nat) (l0 : Nat) (l1 : Int32) (l3 : Int32) (l4 : Int32) (l5 : Int32) (l6 : Int32) (J : zzJ) (r : Int32 × zzJ), F_X7_passengers_75 n l0 l1 l3 l4 l5 l6 J = some r → ∀ (lv2 : Value) (hlv2 : lv2.category = 1), ∀ (lv7 : Value) (hlv7 : lv7.category = 1), zzEv d 210 75 [.ref l0, .int l1, lv2, .int l3, .int l4, .int l5, .int l6, lv7] [] (zK J) (some (.int r.1), zK r.2) := by
  intro n
  induction n with
  | zero => intro l0 l1 l3 l4 l5 l6 J r h; simp [F_X7_passengers_75] at h
  | succ n ih =>
    intro l0 l1 l3 l4 l5 l6 J r h lv2 hlv2 lv7 hlv7
    rw [F_X7_passengers_75] at h
    refine ev_iload zo_210_75 rfl rfl ?_
    refine ev_iload zo_210_77 rfl rfl ?_
    by_cases c1 : l6 < l4
    · rw [if_pos c1] at h
      refine ev_cmp_f (t := 158) zo_210_79 rfl (zcm_nge c1) rfl ?_
      refine ev_iload_n zo_210_82 rfl rfl rfl ?_
      by_cases c2 : l3 < (0 : Int32)
      · rw [if_pos c2] at h
        refine ev_if_t (t := 103) zo_210_83 rfl (zcm_lt c2) ?_
        refine ev_bipush (x := (-12)) zo_210_103 (by decide) rfl ?_
        cases h
        exact ev_retI zo_210_105 zr_210
      rw [if_neg c2] at h
      refine ev_if_f (t := 103) zo_210_83 rfl (zcm_nlt c2) rfl ?_
      refine ev_iload_n zo_210_86 rfl rfl rfl ?_
      refine ev_aload_n zo_210_87 rfl rfl rfl rfl ?_
      obtain ⟨c3, h⟩ := zz_chk h
      obtain ⟨b4, eb4, h⟩ := zz_bd h
      refine ev_getR zo_210_88 zf_210_72 (by decide) rfl c3 eb4 rfl ?_
      refine ev_iload_n zo_210_91 rfl rfl rfl ?_
      obtain ⟨c5, h⟩ := zz_chk h
      obtain ⟨c6, h⟩ := zz_chk h
      refine ev_iald zo_210_92 c5 c6 rfl ?_
      refine ev_iconst (x := 2) zo_210_93 (by decide) rfl ?_
      refine ev_iload zo_210_94 rfl rfl ?_
      refine ev_imul zo_210_96 rfl ?_
      refine ev_isub zo_210_97 rfl ?_
      refine ev_iconst (x := 2) zo_210_98 (by decide) rfl ?_
      refine ev_isub zo_210_99 rfl ?_
      by_cases c7 : (((J.2 b4 l1.toNatClampNeg) - ((2 : Int32) * l6)) - (2 : Int32)) < l3
      · rw [if_pos c7] at h
        refine ev_cmp_f (t := 106) zo_210_100 rfl (zcm_nle c7) rfl ?_
        refine ev_bipush (x := (-12)) zo_210_103 (by decide) rfl ?_
        cases h
        exact ev_retI zo_210_105 zr_210
      rw [if_neg c7] at h
      refine ev_cmp_t (t := 106) zo_210_100 rfl (zcm_le c7) ?_
      refine ev_bipush (x := 40) zo_210_106 (by decide) rfl ?_
      refine ev_iload_n zo_210_108 rfl rfl rfl ?_
      refine ev_imul zo_210_109 rfl ?_
      refine ev_iload_n zo_210_110 rfl rfl rfl ?_
      refine ev_iadd zo_210_111 rfl ?_
      refine ev_iconst (x := 2) zo_210_112 (by decide) rfl ?_
      refine ev_iload zo_210_113 rfl rfl ?_
      refine ev_imul zo_210_115 rfl ?_
      refine ev_iadd zo_210_116 rfl ?_
      refine ev_istore zo_210_117 (zz_set rfl (by decide) (Nat.le_of_ble_eq_true rfl)) rfl ?_
      show zzEv _ _ _ [.ref l0, .int l1, lv2, .int l3, .int l4, .int l5, .int l6, .int ((((40 : Int32) * l1) + l3) + ((2 : Int32) * l6))] _ _ _
      refine ev_iload zo_210_119 rfl rfl ?_
      refine ev_aload_n zo_210_121 rfl rfl rfl rfl ?_
      refine ev_aload_n zo_210_122 rfl rfl rfl rfl ?_
      obtain ⟨b8, eb8, h⟩ := zz_bd h
      refine ev_getR zo_210_123 zf_210_75 (by decide) rfl c3 eb8 rfl ?_
      refine ev_iload zo_210_126 rfl rfl ?_
      obtain ⟨c9, h⟩ := zz_chk h
      obtain ⟨c10, h⟩ := zz_chk h
      refine ev_iald zo_210_128 c9 c10 rfl ?_
      refine ev_aload_n zo_210_129 rfl rfl rfl rfl ?_
      refine ev_getR zo_210_130 zf_210_75 (by decide) rfl c3 eb8 rfl ?_
      refine ev_iload zo_210_133 rfl rfl ?_
      refine ev_iconst (x := 1) zo_210_135 (by decide) rfl ?_
      refine ev_iadd zo_210_136 rfl ?_
      obtain ⟨c11, h⟩ := zz_chk h
      refine ev_iald zo_210_137 c9 c11 rfl ?_
      obtain ⟨q12, hq12, h⟩ := zz_bd h
      refine ev_cV (as := [.int (J.2 b8 (((((40 : Int32) * l1) + l3) + ((2 : Int32) * l6)) + (1 : Int32)).toNatClampNeg), .int (J.2 b8 ((((40 : Int32) * l1) + l3) + ((2 : Int32) * l6)).toNatClampNeg)]) (lsn := [.ref l0, .int (J.2 b8 ((((40 : Int32) * l1) + l3) + ((2 : Int32) * l6)).toNatClampNeg), .int (J.2 b8 (((((40 : Int32) * l1) + l3) + ((2 : Int32) * l6)) + (1 : Int32)).toNatClampNeg)]) (by omega) zo_210_138 zl_210_380 (by rw [zm_145]; rfl) (by rw [zm_145]; exact c3) (by rw [zm_145]; decide) (by unfold zzIn; rw [zm_145]; rfl) (by rw [zm_145]; exact Nat.le_of_ble_eq_true rfl) (Nat.le_of_ble_eq_true rfl) (G_X7_passenger (by omega) l0 (J.2 b8 ((((40 : Int32) * l1) + l3) + ((2 : Int32) * l6)).toNatClampNeg) (J.2 b8 (((((40 : Int32) * l1) + l3) + ((2 : Int32) * l6)) + (1 : Int32)).toNatClampNeg) J q12 hq12) rfl ?_
      show zzEv _ _ _ _ [.int q12.1, .int l5] _ _
      by_cases c13 : q12.1 < (0 : Int32)
      · rw [if_pos c13] at h
        refine ev_if_t (t := 148) zo_210_141 rfl (zcm_lt c13) ?_
        refine ev_iconst (x := 0) zo_210_148 (by decide) rfl ?_
        refine ev_iadd zo_210_149 rfl ?_
        refine ev_istore zo_210_150 (zz_set rfl (by decide) (Nat.le_of_ble_eq_true rfl)) rfl ?_
        show zzEv _ _ _ [.ref l0, .int l1, lv2, .int l3, .int l4, .int (l5 + (0 : Int32)), .int l6, .int ((((40 : Int32) * l1) + l3) + ((2 : Int32) * l6))] _ _ _
        refine ev_iinc (v := 1) zo_210_152 rfl (by decide) (zz_set rfl (by decide) (Nat.le_of_ble_eq_true rfl)) rfl ?_
        show zzEv _ _ _ [.ref l0, .int l1, lv2, .int l3, .int l4, .int (l5 + (0 : Int32)), .int (l6 + 1), .int ((((40 : Int32) * l1) + l3) + ((2 : Int32) * l6))] _ _ _
        refine ev_goto (t := 75) zo_210_155 rfl ?_
        exact ih l0 l1 l3 l4 (l5 + (0 : Int32)) (l6 + 1) q12.2 r h (lv2) hlv2 (.int ((((40 : Int32) * l1) + l3) + ((2 : Int32) * l6))) rfl
      rw [if_neg c13] at h
      refine ev_if_f (t := 148) zo_210_141 rfl (zcm_nlt c13) rfl ?_
      refine ev_iconst (x := 1) zo_210_144 (by decide) rfl ?_
      refine ev_goto (t := 149) zo_210_145 rfl ?_
      refine ev_iadd zo_210_149 rfl ?_
      refine ev_istore zo_210_150 (zz_set rfl (by decide) (Nat.le_of_ble_eq_true rfl)) rfl ?_
      show zzEv _ _ _ [.ref l0, .int l1, lv2, .int l3, .int l4, .int (l5 + (1 : Int32)), .int l6, .int ((((40 : Int32) * l1) + l3) + ((2 : Int32) * l6))] _ _ _
      refine ev_iinc (v := 1) zo_210_152 rfl (by decide) (zz_set rfl (by decide) (Nat.le_of_ble_eq_true rfl)) rfl ?_
      show zzEv _ _ _ [.ref l0, .int l1, lv2, .int l3, .int l4, .int (l5 + (1 : Int32)), .int (l6 + 1), .int ((((40 : Int32) * l1) + l3) + ((2 : Int32) * l6))] _ _ _
      refine ev_goto (t := 75) zo_210_155 rfl ?_
      exact ih l0 l1 l3 l4 (l5 + (1 : Int32)) (l6 + 1) q12.2 r h (lv2) hlv2 (.int ((((40 : Int32) * l1) + l3) + ((2 : Int32) * l6))) rfl
    rw [if_neg c1] at h
    refine ev_cmp_t (t := 158) zo_210_79 rfl (zcm_ge c1) ?_
    refine ev_iload zo_210_158 rfl rfl ?_
    cases h
    exact ev_retI zo_210_160 zr_210
def F_X7_passengers_57 (l0 : Nat) (l1 : Int32) (l3 : Int32) (l4 : Int32) (J : zzJ) : Option (Int32 × zzJ) := (if zKd l0 = 7 then (Option.bind (zMR l0 48) fun b15 => (if zKd b15 = 9 then (if zzIx l1 (zSz b15) then (if (J.2 b15 l1.toNatClampNeg) = (0 : Int32) then some ((-11 : Int32), J) else F_X7_passengers_75 4096 l0 l1 l3 l4 (0 : Int32) (0 : Int32) J) else none) else none)) else none)
set_option maxRecDepth 100000 in
set_option maxHeartbeats 2000000 in
theorem G_X7_passengers_57 {d : Nat} (hd : 2 ≤ d) : ∀ (l0 : Nat) (l1 : Int32) (l3 : Int32) (l4 : Int32) (J : zzJ) (r : Int32 × zzJ), F_X7_passengers_57 l0 l1 l3 l4 J = some r → ∀ (lv2 : Value) (hlv2 : lv2.category = 1), zzEv d 210 57 [.ref l0, .int l1, lv2, .int l3, .int l4, zzU, zzU, zzU] [] (zK J) (some (.int r.1), zK r.2) := by
  intro l0 l1 l3 l4 J r h lv2 hlv2
  unfold F_X7_passengers_57 at h
  refine ev_aload_n zo_210_57 rfl rfl rfl rfl ?_
  obtain ⟨c14, h⟩ := zz_chk h
  obtain ⟨b15, eb15, h⟩ := zz_bd h
  refine ev_getR zo_210_58 zf_210_65 (by decide) rfl c14 eb15 rfl ?_
  refine ev_iload_n zo_210_61 rfl rfl rfl ?_
  obtain ⟨c16, h⟩ := zz_chk h
  obtain ⟨c17, h⟩ := zz_chk h
  refine ev_bald zo_210_62 c16 c17 rfl ?_
  by_cases c18 : (J.2 b15 l1.toNatClampNeg) = (0 : Int32)
  · rw [if_pos c18] at h
    refine ev_if_f (t := 69) zo_210_63 rfl (zcm_nne c18) rfl ?_
    refine ev_bipush (x := (-11)) zo_210_66 (by decide) rfl ?_
    cases h
    exact ev_retI zo_210_68 zr_210
  rw [if_neg c18] at h
  refine ev_if_t (t := 69) zo_210_63 rfl (zcm_ne c18) ?_
  refine ev_iconst (x := 0) zo_210_69 (by decide) rfl ?_
  refine ev_istore zo_210_70 (zz_set rfl (by decide) (Nat.le_of_ble_eq_true rfl)) rfl ?_
  show zzEv _ _ _ [.ref l0, .int l1, lv2, .int l3, .int l4, .int (0 : Int32), zzU, zzU] _ _ _
  refine ev_iconst (x := 0) zo_210_72 (by decide) rfl ?_
  refine ev_istore zo_210_73 (zz_set rfl (by decide) (Nat.le_of_ble_eq_true rfl)) rfl ?_
  show zzEv _ _ _ [.ref l0, .int l1, lv2, .int l3, .int l4, .int (0 : Int32), .int (0 : Int32), zzU] _ _ _
  exact G_X7_passengers_75 hd 4096 l0 l1 l3 l4 (0 : Int32) (0 : Int32) J r h (lv2) hlv2 (zzU) rfl
def F_X7_passengers (x0 : Nat) (x1 : Int32) (x2 : Int32) (x3 : Int32) (x4 : Int32) (J : zzJ) : Option (Int32 × zzJ) := (Option.bind (F_X7_isSheet x1 J) fun q19 => (if q19.1 = (0 : Int32) then some ((-2 : Int32), q19.2) else (Option.bind (F_X7_in x2.toInt64 (0 : Int64) (2 : Int64) q19.2) fun q21 => (if q21.1 = (0 : Int32) then some ((-2 : Int32), q21.2) else (Option.bind (F_X7_in x4.toInt64 (0 : Int64) (8 : Int64) q21.2) fun q23 => (if q23.1 = (0 : Int32) then some ((-2 : Int32), q23.2) else (if zKd x0 = 7 then (Option.bind (zMR x0 48) fun b26 => (if zKd b26 = 9 then (if zzIx x1 (zSz b26) then (if (q23.2.2 b26 x1.toNatClampNeg) = (0 : Int32) then F_X7_passengers_57 x0 x1 x3 x4 q23.2 else (Option.bind (zMR x0 49) fun b30 => (if zKd b30 = 8 then (if zzIx x1 (zSz b30) then (if (q23.2.2 b30 x1.toNatClampNeg) = x2 then F_X7_passengers_57 x0 x1 x3 x4 q23.2 else some ((-13 : Int32), q23.2)) else none) else none))) else none) else none)) else none)))))))
set_option maxRecDepth 100000 in
set_option maxHeartbeats 2000000 in
theorem G_X7_passengers {d : Nat} (hd : 2 ≤ d) (x0 : Nat) (x1 : Int32) (x2 : Int32) (x3 : Int32) (x4 : Int32) (J : zzJ) (r : Int32 × zzJ) (h : F_X7_passengers x0 x1 x2 x3 x4 J = some r) : zzEv d 210 0 [.ref x0, .int x1, .int x2, .int x3, .int x4, zzU, zzU, zzU] [] (zK J) (some (.int r.1), zK r.2) := by
  unfold F_X7_passengers at h
  refine ev_iload_n zo_210_0 rfl rfl rfl ?_
  obtain ⟨q19, hq19, h⟩ := zz_bd h
  refine ev_cS (as := [.int x1]) (lsn := [.int x1]) (by omega) zo_210_1 zl_210_334 (by decide) (by rw [zm_206]; rfl) (by unfold zzIn; rw [zm_206]; rfl) (by rw [zm_206]; exact Nat.le_of_ble_eq_true rfl) (Nat.le_of_ble_eq_true rfl) (G_X7_isSheet (by omega) x1 J q19 hq19) rfl ?_
  show zzEv _ _ _ _ [.int q19.1] _ _
  by_cases c20 : q19.1 = (0 : Int32)
  · rw [if_pos c20] at h
    refine ev_if_t (t := 32) zo_210_4 rfl (zcm_eq c20) ?_
    refine ev_bipush (x := (-2)) zo_210_32 (by decide) rfl ?_
    cases h
    exact ev_retI zo_210_34 zr_210
  rw [if_neg c20] at h
  refine ev_if_f (t := 32) zo_210_4 rfl (zcm_neq c20) rfl ?_
  refine ev_iload_n zo_210_7 rfl rfl rfl ?_
  refine ev_i2l zo_210_8 rfl ?_
  refine ev_lconst (x := 0) zo_210_9 (by decide) rfl ?_
  refine ev_ldc2 zo_210_10 zc_210_284 rfl ?_
  obtain ⟨q21, hq21, h⟩ := zz_bd h
  refine ev_cS (as := [.long (2 : Int64), .long (0 : Int64), .long x2.toInt64]) (lsn := [.long x2.toInt64, zzU, .long (0 : Int64), zzU, .long (2 : Int64), zzU]) (by omega) zo_210_13 zl_210_88 (by decide) (by rw [zm_136]; rfl) (by unfold zzIn; rw [zm_136]; rfl) (by rw [zm_136]; exact Nat.le_of_ble_eq_true rfl) (Nat.le_of_ble_eq_true rfl) (G_X7_in (by omega) x2.toInt64 (0 : Int64) (2 : Int64) q19.2 q21 hq21) rfl ?_
  show zzEv _ _ _ _ [.int q21.1] _ _
  by_cases c22 : q21.1 = (0 : Int32)
  · rw [if_pos c22] at h
    refine ev_if_t (t := 32) zo_210_16 rfl (zcm_eq c22) ?_
    refine ev_bipush (x := (-2)) zo_210_32 (by decide) rfl ?_
    cases h
    exact ev_retI zo_210_34 zr_210
  rw [if_neg c22] at h
  refine ev_if_f (t := 32) zo_210_16 rfl (zcm_neq c22) rfl ?_
  refine ev_iload zo_210_19 rfl rfl ?_
  refine ev_i2l zo_210_21 rfl ?_
  refine ev_lconst (x := 0) zo_210_22 (by decide) rfl ?_
  refine ev_ldc2 zo_210_23 zc_210_378 rfl ?_
  obtain ⟨q23, hq23, h⟩ := zz_bd h
  refine ev_cS (as := [.long (8 : Int64), .long (0 : Int64), .long x4.toInt64]) (lsn := [.long x4.toInt64, zzU, .long (0 : Int64), zzU, .long (8 : Int64), zzU]) (by omega) zo_210_26 zl_210_88 (by decide) (by rw [zm_136]; rfl) (by unfold zzIn; rw [zm_136]; rfl) (by rw [zm_136]; exact Nat.le_of_ble_eq_true rfl) (Nat.le_of_ble_eq_true rfl) (G_X7_in (by omega) x4.toInt64 (0 : Int64) (8 : Int64) q21.2 q23 hq23) rfl ?_
  show zzEv _ _ _ _ [.int q23.1] _ _
  by_cases c24 : q23.1 = (0 : Int32)
  · rw [if_pos c24] at h
    refine ev_if_f (t := 35) zo_210_29 rfl (zcm_nne c24) rfl ?_
    refine ev_bipush (x := (-2)) zo_210_32 (by decide) rfl ?_
    cases h
    exact ev_retI zo_210_34 zr_210
  rw [if_neg c24] at h
  refine ev_if_t (t := 35) zo_210_29 rfl (zcm_ne c24) ?_
  refine ev_aload_n zo_210_35 rfl rfl rfl rfl ?_
  obtain ⟨c25, h⟩ := zz_chk h
  obtain ⟨b26, eb26, h⟩ := zz_bd h
  refine ev_getR zo_210_36 zf_210_65 (by decide) rfl c25 eb26 rfl ?_
  refine ev_iload_n zo_210_39 rfl rfl rfl ?_
  obtain ⟨c27, h⟩ := zz_chk h
  obtain ⟨c28, h⟩ := zz_chk h
  refine ev_bald zo_210_40 c27 c28 rfl ?_
  by_cases c29 : (q23.2.2 b26 x1.toNatClampNeg) = (0 : Int32)
  · rw [if_pos c29] at h
    refine ev_if_t (t := 57) zo_210_41 rfl (zcm_eq c29) ?_
    exact G_X7_passengers_57 hd x0 x1 x3 x4 q23.2 r h (.int x2) rfl
  rw [if_neg c29] at h
  refine ev_if_f (t := 57) zo_210_41 rfl (zcm_neq c29) rfl ?_
  refine ev_aload_n zo_210_44 rfl rfl rfl rfl ?_
  obtain ⟨b30, eb30, h⟩ := zz_bd h
  refine ev_getR zo_210_45 zf_210_69 (by decide) rfl c25 eb30 rfl ?_
  refine ev_iload_n zo_210_48 rfl rfl rfl ?_
  obtain ⟨c31, h⟩ := zz_chk h
  obtain ⟨c32, h⟩ := zz_chk h
  refine ev_iald zo_210_49 c31 c32 rfl ?_
  refine ev_iload_n zo_210_50 rfl rfl rfl ?_
  by_cases c33 : (q23.2.2 b30 x1.toNatClampNeg) = x2
  · rw [if_pos c33] at h
    refine ev_cmp_t (t := 57) zo_210_51 rfl (zcm_eq c33) ?_
    exact G_X7_passengers_57 hd x0 x1 x3 x4 q23.2 r h (.int x2) rfl
  rw [if_neg c33] at h
  refine ev_cmp_f (t := 57) zo_210_51 rfl (zcm_neq c33) rfl ?_
  refine ev_bipush (x := (-13)) zo_210_54 (by decide) rfl ?_
  cases h
  exact ev_retI zo_210_56 zr_210
/-! X7_over -/
def F_X7_over (x0 : Int32) (J : zzJ) : Option (Int32 × zzJ) := (if x0 = (0 : Int32) then some ((-1 : Int32), J) else (if x0 = (3 : Int32) then some ((1 : Int32), J) else (if x0 = (4 : Int32) then some ((2 : Int32), J) else some ((0 : Int32), J))))
set_option maxRecDepth 100000 in
set_option maxHeartbeats 2000000 in
theorem G_X7_over {d : Nat} (hd : 0 ≤ d) (x0 : Int32) (J : zzJ) (r : Int32 × zzJ) (h : F_X7_over x0 J = some r) : zzEv d 211 0 [.int x0] [] (zK J) (some (.int r.1), zK r.2) := by
  unfold F_X7_over at h
  refine ev_iload_n zo_211_0 rfl rfl rfl ?_
  by_cases c1 : x0 = (0 : Int32)
  · rw [if_pos c1] at h
    refine ev_if_f (t := 8) zo_211_1 rfl (zcm_nne c1) rfl ?_
    refine ev_iconst (x := (-1)) zo_211_4 (by decide) rfl ?_
    refine ev_goto (t := 27) zo_211_5 rfl ?_
    cases h
    exact ev_retI zo_211_27 zr_211
  rw [if_neg c1] at h
  refine ev_if_t (t := 8) zo_211_1 rfl (zcm_ne c1) ?_
  refine ev_iload_n zo_211_8 rfl rfl rfl ?_
  refine ev_iconst (x := 3) zo_211_9 (by decide) rfl ?_
  by_cases c2 : x0 = (3 : Int32)
  · rw [if_pos c2] at h
    refine ev_cmp_f (t := 17) zo_211_10 rfl (zcm_nne c2) rfl ?_
    refine ev_iconst (x := 1) zo_211_13 (by decide) rfl ?_
    refine ev_goto (t := 27) zo_211_14 rfl ?_
    cases h
    exact ev_retI zo_211_27 zr_211
  rw [if_neg c2] at h
  refine ev_cmp_t (t := 17) zo_211_10 rfl (zcm_ne c2) ?_
  refine ev_iload_n zo_211_17 rfl rfl rfl ?_
  refine ev_iconst (x := 4) zo_211_18 (by decide) rfl ?_
  by_cases c3 : x0 = (4 : Int32)
  · rw [if_pos c3] at h
    refine ev_cmp_f (t := 26) zo_211_19 rfl (zcm_nne c3) rfl ?_
    refine ev_iconst (x := 2) zo_211_22 (by decide) rfl ?_
    refine ev_goto (t := 27) zo_211_23 rfl ?_
    cases h
    exact ev_retI zo_211_27 zr_211
  rw [if_neg c3] at h
  refine ev_cmp_t (t := 26) zo_211_19 rfl (zcm_ne c3) ?_
  refine ev_iconst (x := 0) zo_211_26 (by decide) rfl ?_
  cases h
  exact ev_retI zo_211_27 zr_211
/-! X7_taken -/
def F_X7_taken_51 (l0 : Nat) (l1 : Int32) (l2 : Int32) (l3 : Int32) (J : zzJ) : Option (Int32 × zzJ) := (if l3 = l2 then (if zKd l0 = 7 then (Option.bind (zMR l0 10) fun b3 => (if zKd b3 = 8 then (if zzIx l1 (zSz b3) then some ((J.2 b3 l1.toNatClampNeg), J) else none) else none)) else none) else some ((-13 : Int32), J))
set_option maxRecDepth 100000 in
set_option maxHeartbeats 2000000 in
theorem G_X7_taken_51 {d : Nat} (hd : 2 ≤ d) : ∀ (l0 : Nat) (l1 : Int32) (l2 : Int32) (l3 : Int32) (J : zzJ) (r : Int32 × zzJ), F_X7_taken_51 l0 l1 l2 l3 J = some r → zzEv d 212 51 [.ref l0, .int l1, .int l2, .int l3] [] (zK J) (some (.int r.1), zK r.2) := by
  intro l0 l1 l2 l3 J r h
  unfold F_X7_taken_51 at h
  refine ev_iload_n zo_212_51 rfl rfl rfl ?_
  refine ev_iload_n zo_212_52 rfl rfl rfl ?_
  by_cases c1 : l3 = l2
  · rw [if_pos c1] at h
    refine ev_cmp_f (t := 65) zo_212_53 rfl (zcm_nne c1) rfl ?_
    refine ev_aload_n zo_212_56 rfl rfl rfl rfl ?_
    obtain ⟨c2, h⟩ := zz_chk h
    obtain ⟨b3, eb3, h⟩ := zz_bd h
    refine ev_getR zo_212_57 zf_212_29 (by decide) rfl c2 eb3 rfl ?_
    refine ev_iload_n zo_212_60 rfl rfl rfl ?_
    obtain ⟨c4, h⟩ := zz_chk h
    obtain ⟨c5, h⟩ := zz_chk h
    refine ev_iald zo_212_61 c4 c5 rfl ?_
    refine ev_goto (t := 67) zo_212_62 rfl ?_
    cases h
    exact ev_retI zo_212_67 zr_212
  rw [if_neg c1] at h
  refine ev_cmp_t (t := 65) zo_212_53 rfl (zcm_ne c1) ?_
  refine ev_bipush (x := (-13)) zo_212_65 (by decide) rfl ?_
  cases h
  exact ev_retI zo_212_67 zr_212
def F_X7_taken_33 : Nat → Nat → Int32 → Int32 → Int32 → zzJ → Option (Int32 × zzJ)
  | 0, _, _, _, _, _ => none
  | n + 1, l0, l1, l2, l3, J => (if l3 = (-1 : Int32) then F_X7_taken_51 l0 l1 l2 l3 J else (if l3 = l2 then F_X7_taken_51 l0 l1 l2 l3 J else (Option.bind (F_X7_over l3 J) fun q8 => F_X7_taken_33 n l0 l1 l2 q8.1 q8.2)))
set_option maxRecDepth 100000 in
set_option maxHeartbeats 2000000 in
theorem G_X7_taken_33 {d : Nat} (hd : 2 ≤ d) : ∀ (n : Nat) (l0 : Nat) (l1 : Int32) (l2 : Int32) (l3 : Int32) (J : zzJ) (r : Int32 × zzJ), F_X7_taken_33 n l0 l1 l2 l3 J = some r → zzEv d 212 33 [.ref l0, .int l1, .int l2, .int l3] [] (zK J) (some (.int r.1), zK r.2) := by
  intro n
  induction n with
  | zero => intro l0 l1 l2 l3 J r h; simp [F_X7_taken_33] at h
  | succ n ih =>
    intro l0 l1 l2 l3 J r h
    rw [F_X7_taken_33] at h
    refine ev_iload_n zo_212_33 rfl rfl rfl ?_
    refine ev_iconst (x := (-1)) zo_212_34 (by decide) rfl ?_
    by_cases c6 : l3 = (-1 : Int32)
    · rw [if_pos c6] at h
      refine ev_cmp_t (t := 51) zo_212_35 rfl (zcm_eq c6) ?_
      exact G_X7_taken_51 hd l0 l1 l2 l3 J r h
    rw [if_neg c6] at h
    refine ev_cmp_f (t := 51) zo_212_35 rfl (zcm_neq c6) rfl ?_
    refine ev_iload_n zo_212_38 rfl rfl rfl ?_
    refine ev_iload_n zo_212_39 rfl rfl rfl ?_
    by_cases c7 : l3 = l2
    · rw [if_pos c7] at h
      refine ev_cmp_t (t := 51) zo_212_40 rfl (zcm_eq c7) ?_
      exact G_X7_taken_51 hd l0 l1 l2 l3 J r h
    rw [if_neg c7] at h
    refine ev_cmp_f (t := 51) zo_212_40 rfl (zcm_neq c7) rfl ?_
    refine ev_iload_n zo_212_43 rfl rfl rfl ?_
    obtain ⟨q8, hq8, h⟩ := zz_bd h
    refine ev_cS (as := [.int l3]) (lsn := [.int l3]) (by omega) zo_212_44 zl_212_383 (by decide) (by rw [zm_211]; rfl) (by unfold zzIn; rw [zm_211]; rfl) (by rw [zm_211]; exact Nat.le_of_ble_eq_true rfl) (Nat.le_of_ble_eq_true rfl) (G_X7_over (by omega) l3 J q8 hq8) rfl ?_
    show zzEv _ _ _ _ [.int q8.1] _ _
    refine ev_istore_n zo_212_47 rfl (zz_set rfl (by decide) (Nat.le_of_ble_eq_true rfl)) rfl ?_
    show zzEv _ _ _ [.ref l0, .int l1, .int l2, .int q8.1] _ _ _
    refine ev_goto (t := 33) zo_212_48 rfl ?_
    exact ih l0 l1 l2 q8.1 q8.2 r h
def F_X7_taken (x0 : Nat) (x1 : Int32) (x2 : Int32) (J : zzJ) : Option (Int32 × zzJ) := (Option.bind (F_X7_in x2.toInt64 (0 : Int64) (5 : Int64) J) fun q9 => (if q9.1 = (0 : Int32) then some ((-2 : Int32), q9.2) else (if zKd x0 = 7 then (Option.bind (F_X7_isOne x0 x1 q9.2) fun q12 => (if q12.1 = (0 : Int32) then some ((-11 : Int32), q12.2) else (Option.bind (zMR x0 9) fun b14 => (if zKd b14 = 8 then (if zzIx x1 (zSz b14) then F_X7_taken_33 4096 x0 x1 x2 (q12.2.2 b14 x1.toNatClampNeg) q12.2 else none) else none)))) else none)))
set_option maxRecDepth 100000 in
set_option maxHeartbeats 2000000 in
theorem G_X7_taken {d : Nat} (hd : 2 ≤ d) (x0 : Nat) (x1 : Int32) (x2 : Int32) (J : zzJ) (r : Int32 × zzJ) (h : F_X7_taken x0 x1 x2 J = some r) : zzEv d 212 0 [.ref x0, .int x1, .int x2, zzU] [] (zK J) (some (.int r.1), zK r.2) := by
  unfold F_X7_taken at h
  refine ev_iload_n zo_212_0 rfl rfl rfl ?_
  refine ev_i2l zo_212_1 rfl ?_
  refine ev_lconst (x := 0) zo_212_2 (by decide) rfl ?_
  refine ev_ldc2 zo_212_3 zc_212_124 rfl ?_
  obtain ⟨q9, hq9, h⟩ := zz_bd h
  refine ev_cS (as := [.long (5 : Int64), .long (0 : Int64), .long x2.toInt64]) (lsn := [.long x2.toInt64, zzU, .long (0 : Int64), zzU, .long (5 : Int64), zzU]) (by omega) zo_212_6 zl_212_88 (by decide) (by rw [zm_136]; rfl) (by unfold zzIn; rw [zm_136]; rfl) (by rw [zm_136]; exact Nat.le_of_ble_eq_true rfl) (Nat.le_of_ble_eq_true rfl) (G_X7_in (by omega) x2.toInt64 (0 : Int64) (5 : Int64) J q9 hq9) rfl ?_
  show zzEv _ _ _ _ [.int q9.1] _ _
  by_cases c10 : q9.1 = (0 : Int32)
  · rw [if_pos c10] at h
    refine ev_if_f (t := 15) zo_212_9 rfl (zcm_nne c10) rfl ?_
    refine ev_bipush (x := (-2)) zo_212_12 (by decide) rfl ?_
    cases h
    exact ev_retI zo_212_14 zr_212
  rw [if_neg c10] at h
  refine ev_if_t (t := 15) zo_212_9 rfl (zcm_ne c10) ?_
  refine ev_aload_n zo_212_15 rfl rfl rfl rfl ?_
  refine ev_iload_n zo_212_16 rfl rfl rfl ?_
  obtain ⟨c11, h⟩ := zz_chk h
  obtain ⟨q12, hq12, h⟩ := zz_bd h
  refine ev_cV (as := [.int x1]) (lsn := [.ref x0, .int x1]) (by omega) zo_212_17 zl_212_94 (by rw [zm_140]; rfl) (by rw [zm_140]; exact c11) (by rw [zm_140]; decide) (by unfold zzIn; rw [zm_140]; rfl) (by rw [zm_140]; exact Nat.le_of_ble_eq_true rfl) (Nat.le_of_ble_eq_true rfl) (G_X7_isOne (by omega) x0 x1 q9.2 q12 hq12) rfl ?_
  show zzEv _ _ _ _ [.int q12.1] _ _
  by_cases c13 : q12.1 = (0 : Int32)
  · rw [if_pos c13] at h
    refine ev_if_f (t := 26) zo_212_20 rfl (zcm_nne c13) rfl ?_
    refine ev_bipush (x := (-11)) zo_212_23 (by decide) rfl ?_
    cases h
    exact ev_retI zo_212_25 zr_212
  rw [if_neg c13] at h
  refine ev_if_t (t := 26) zo_212_20 rfl (zcm_ne c13) ?_
  refine ev_aload_n zo_212_26 rfl rfl rfl rfl ?_
  obtain ⟨b14, eb14, h⟩ := zz_bd h
  refine ev_getR zo_212_27 zf_212_26 (by decide) rfl c11 eb14 rfl ?_
  refine ev_iload_n zo_212_30 rfl rfl rfl ?_
  obtain ⟨c15, h⟩ := zz_chk h
  obtain ⟨c16, h⟩ := zz_chk h
  refine ev_iald zo_212_31 c15 c16 rfl ?_
  refine ev_istore_n zo_212_32 rfl (zz_set rfl (by decide) (Nat.le_of_ble_eq_true rfl)) rfl ?_
  show zzEv _ _ _ [.ref x0, .int x1, .int x2, .int (q12.2.2 b14 x1.toNatClampNeg)] _ _ _
  exact G_X7_taken_33 hd 4096 x0 x1 x2 (q12.2.2 b14 x1.toNatClampNeg) q12.2 r h
/-! L_law -/
def F_L_law_18 : Nat → Nat → Nat → Nat → Int32 → zzJ → Option (Int32 × zzJ)
  | 0, _, _, _, _, _ => none
  | n + 1, l0, l1, l2, l3, J => (if 8 ≤ zKd l0 ∧ zKd l0 ≤ 10 then (if ((Int32.ofNat (zSz l0)) - (6 : Int32)) < l3 then some ((1 : Int32), J) else (if zKd l0 = 8 then (if zzIx l3 (zSz l0) then (if ((J.2 l0 l3.toNatClampNeg) &&& (31 : Int32)) = 0 then (if zzIx (l3 + (1 : Int32)) (zSz l0) then (if zzIx (l3 + (2 : Int32)) (zSz l0) then (if zzIx (l3 + (3 : Int32)) (zSz l0) then (if zKd l1 = 6 then (Option.bind (F_X6_set l1 (J.2 l0 (l3 + (1 : Int32)).toNatClampNeg) (J.2 l0 (l3 + (2 : Int32)).toNatClampNeg) (J.2 l0 (l3 + (3 : Int32)).toNatClampNeg) J) fun q10 => (if zzIx (l3 + (1 : Int32)) (zSz l0) then (if zzIx (l3 + (2 : Int32)) (zSz l0) then (if zzIx (l3 + (3 : Int32)) (zSz l0) then (if zKd l2 = 7 then (Option.bind (F_X7_set l2 (q10.2.2 l0 (l3 + (1 : Int32)).toNatClampNeg) (q10.2.2 l0 (l3 + (2 : Int32)).toNatClampNeg) (q10.2.2 l0 (l3 + (3 : Int32)).toNatClampNeg) q10.2) fun q15 => (if q10.1 = q15.1 then F_L_law_18 n l0 l1 l2 (l3 + 6) q15.2 else some ((0 : Int32), q15.2))) else none) else none) else none) else none)) else none) else none) else none) else none) else (if ((J.2 l0 l3.toNatClampNeg) &&& (31 : Int32)) = 1 then (if zzIx (l3 + (1 : Int32)) (zSz l0) then (if zzIx (l3 + (2 : Int32)) (zSz l0) then (if zKd l1 = 6 then (Option.bind (F_X6_passenger l1 (J.2 l0 (l3 + (1 : Int32)).toNatClampNeg) (J.2 l0 (l3 + (2 : Int32)).toNatClampNeg) J) fun q21 => (if zzIx (l3 + (1 : Int32)) (zSz l0) then (if zzIx (l3 + (2 : Int32)) (zSz l0) then (if zKd l2 = 7 then (Option.bind (F_X7_passenger l2 (q21.2.2 l0 (l3 + (1 : Int32)).toNatClampNeg) (q21.2.2 l0 (l3 + (2 : Int32)).toNatClampNeg) q21.2) fun q25 => (if q21.1 = q25.1 then F_L_law_18 n l0 l1 l2 (l3 + 6) q25.2 else some ((0 : Int32), q25.2))) else none) else none) else none)) else none) else none) else none) else (if ((J.2 l0 l3.toNatClampNeg) &&& (31 : Int32)) = 2 then (if zzIx (l3 + (1 : Int32)) (zSz l0) then (if zzIx (l3 + (2 : Int32)) (zSz l0) then (if zKd l1 = 6 then (Option.bind (F_X6_sit l1 (J.2 l0 (l3 + (1 : Int32)).toNatClampNeg) (J.2 l0 (l3 + (2 : Int32)).toNatClampNeg) J) fun q31 => (if zzIx (l3 + (1 : Int32)) (zSz l0) then (if zzIx (l3 + (2 : Int32)) (zSz l0) then (if zKd l2 = 7 then (Option.bind (F_X7_sit l2 (q31.2.2 l0 (l3 + (1 : Int32)).toNatClampNeg) (q31.2.2 l0 (l3 + (2 : Int32)).toNatClampNeg) q31.2) fun q35 => (if q31.1 = q35.1 then F_L_law_18 n l0 l1 l2 (l3 + 6) q35.2 else some ((0 : Int32), q35.2))) else none) else none) else none)) else none) else none) else none) else (if ((J.2 l0 l3.toNatClampNeg) &&& (31 : Int32)) = 3 then (if zzIx (l3 + (1 : Int32)) (zSz l0) then (if zzIx (l3 + (2 : Int32)) (zSz l0) then (if zKd l1 = 6 then (Option.bind (F_X6_told l1 (J.2 l0 (l3 + (1 : Int32)).toNatClampNeg) (J.2 l0 (l3 + (2 : Int32)).toNatClampNeg) J) fun q41 => (if zzIx (l3 + (1 : Int32)) (zSz l0) then (if zzIx (l3 + (2 : Int32)) (zSz l0) then (if zKd l2 = 7 then (Option.bind (F_X7_told l2 (q41.2.2 l0 (l3 + (1 : Int32)).toNatClampNeg) (q41.2.2 l0 (l3 + (2 : Int32)).toNatClampNeg) q41.2) fun q45 => (if q41.1 = q45.1 then F_L_law_18 n l0 l1 l2 (l3 + 6) q45.2 else some ((0 : Int32), q45.2))) else none) else none) else none)) else none) else none) else none) else (if ((J.2 l0 l3.toNatClampNeg) &&& (31 : Int32)) = 4 then (if zzIx (l3 + (1 : Int32)) (zSz l0) then (if zKd l1 = 6 then (Option.bind (F_X6_who l1 (J.2 l0 (l3 + (1 : Int32)).toNatClampNeg) J) fun q50 => (if zzIx (l3 + (1 : Int32)) (zSz l0) then (if zKd l2 = 7 then (Option.bind (F_X7_who l2 (q50.2.2 l0 (l3 + (1 : Int32)).toNatClampNeg) q50.2) fun q53 => (if q50.1 = q53.1 then F_L_law_18 n l0 l1 l2 (l3 + 6) q53.2 else some ((0 : Int32), q53.2))) else none) else none)) else none) else none) else (if ((J.2 l0 l3.toNatClampNeg) &&& (31 : Int32)) = 5 then (if zzIx (l3 + (1 : Int32)) (zSz l0) then (if zKd l1 = 6 then (Option.bind (F_X6_feed l1 (J.2 l0 (l3 + (1 : Int32)).toNatClampNeg) J) fun q58 => (if zzIx (l3 + (1 : Int32)) (zSz l0) then (if zKd l2 = 7 then (Option.bind (F_X7_feed l2 (q58.2.2 l0 (l3 + (1 : Int32)).toNatClampNeg) q58.2) fun q61 => (if q58.1 = q61.1 then F_L_law_18 n l0 l1 l2 (l3 + 6) q61.2 else some ((0 : Int32), q61.2))) else none) else none)) else none) else none) else (if ((J.2 l0 l3.toNatClampNeg) &&& (31 : Int32)) = 6 then (if zKd l1 = 6 then (Option.bind (F_X6_text l1 J) fun q65 => (if zKd l2 = 7 then (Option.bind (F_X7_text l2 q65.2) fun q67 => (if q65.1 = q67.1 then F_L_law_18 n l0 l1 l2 (l3 + 6) q67.2 else some ((0 : Int32), q67.2))) else none)) else none) else (if ((J.2 l0 l3.toNatClampNeg) &&& (31 : Int32)) = 7 then (if zzIx (l3 + (1 : Int32)) (zSz l0) then (if zKd l1 = 6 then (Option.bind (F_X6_force l1 (J.2 l0 (l3 + (1 : Int32)).toNatClampNeg) J) fun q72 => (if zzIx (l3 + (1 : Int32)) (zSz l0) then (if zKd l2 = 7 then (Option.bind (F_X7_force l2 (q72.2.2 l0 (l3 + (1 : Int32)).toNatClampNeg) q72.2) fun q75 => (if q72.1 = q75.1 then F_L_law_18 n l0 l1 l2 (l3 + 6) q75.2 else some ((0 : Int32), q75.2))) else none) else none)) else none) else none) else (if ((J.2 l0 l3.toNatClampNeg) &&& (31 : Int32)) = 8 then (if zzIx (l3 + (1 : Int32)) (zSz l0) then (if zKd l1 = 6 then (Option.bind (F_X6_all l1 (J.2 l0 (l3 + (1 : Int32)).toNatClampNeg) J) fun q80 => (if zzIx (l3 + (1 : Int32)) (zSz l0) then (if zKd l2 = 7 then (Option.bind (F_X7_all l2 (q80.2.2 l0 (l3 + (1 : Int32)).toNatClampNeg) q80.2) fun q83 => (if q80.1 = q83.1 then F_L_law_18 n l0 l1 l2 (l3 + 6) q83.2 else some ((0 : Int32), q83.2))) else none) else none)) else none) else none) else (if ((J.2 l0 l3.toNatClampNeg) &&& (31 : Int32)) = 9 then (if zzIx (l3 + (1 : Int32)) (zSz l0) then (if zzIx (l3 + (2 : Int32)) (zSz l0) then (if zKd l1 = 6 then (Option.bind (F_X6_ride l1 (J.2 l0 (l3 + (1 : Int32)).toNatClampNeg) (J.2 l0 (l3 + (2 : Int32)).toNatClampNeg) J) fun q89 => (if zzIx (l3 + (1 : Int32)) (zSz l0) then (if zzIx (l3 + (2 : Int32)) (zSz l0) then (if zKd l2 = 7 then (Option.bind (F_X7_ride l2 (q89.2.2 l0 (l3 + (1 : Int32)).toNatClampNeg) (q89.2.2 l0 (l3 + (2 : Int32)).toNatClampNeg) q89.2) fun q93 => (if q89.1 = q93.1 then F_L_law_18 n l0 l1 l2 (l3 + 6) q93.2 else some ((0 : Int32), q93.2))) else none) else none) else none)) else none) else none) else none) else (if ((J.2 l0 l3.toNatClampNeg) &&& (31 : Int32)) = 10 then (if zzIx (l3 + (1 : Int32)) (zSz l0) then (if zzIx (l3 + (2 : Int32)) (zSz l0) then (if zKd l1 = 6 then (Option.bind (F_X6_best l1 (J.2 l0 (l3 + (1 : Int32)).toNatClampNeg) (J.2 l0 (l3 + (2 : Int32)).toNatClampNeg) J) fun q99 => (if zzIx (l3 + (1 : Int32)) (zSz l0) then (if zzIx (l3 + (2 : Int32)) (zSz l0) then (if zKd l2 = 7 then (Option.bind (F_X7_best l2 (q99.2.2 l0 (l3 + (1 : Int32)).toNatClampNeg) (q99.2.2 l0 (l3 + (2 : Int32)).toNatClampNeg) q99.2) fun q103 => (if q99.1 = q103.1 then F_L_law_18 n l0 l1 l2 (l3 + 6) q103.2 else some ((0 : Int32), q103.2))) else none) else none) else none)) else none) else none) else none) else (if ((J.2 l0 l3.toNatClampNeg) &&& (31 : Int32)) = 11 then (if zzIx (l3 + (1 : Int32)) (zSz l0) then (if zKd l1 = 6 then (Option.bind (F_X6_change l1 (J.2 l0 (l3 + (1 : Int32)).toNatClampNeg) J) fun q108 => (if zzIx (l3 + (1 : Int32)) (zSz l0) then (if zKd l2 = 7 then (Option.bind (F_X7_change l2 (q108.2.2 l0 (l3 + (1 : Int32)).toNatClampNeg) q108.2) fun q111 => (if q108.1 = q111.1 then F_L_law_18 n l0 l1 l2 (l3 + 6) q111.2 else some ((0 : Int32), q111.2))) else none) else none)) else none) else none) else (if ((J.2 l0 l3.toNatClampNeg) &&& (31 : Int32)) = 12 then (if zzIx (l3 + (1 : Int32)) (zSz l0) then (if zKd l1 = 6 then (Option.bind (F_X6_watch l1 (J.2 l0 (l3 + (1 : Int32)).toNatClampNeg) J) fun q116 => (if zzIx (l3 + (1 : Int32)) (zSz l0) then (if zKd l2 = 7 then (Option.bind (F_X7_watch l2 (q116.2.2 l0 (l3 + (1 : Int32)).toNatClampNeg) q116.2) fun q119 => (if q116.1 = q119.1 then F_L_law_18 n l0 l1 l2 (l3 + 6) q119.2 else some ((0 : Int32), q119.2))) else none) else none)) else none) else none) else (if ((J.2 l0 l3.toNatClampNeg) &&& (31 : Int32)) = 13 then (if zzIx (l3 + (1 : Int32)) (zSz l0) then (if zzIx (l3 + (2 : Int32)) (zSz l0) then (if zKd l1 = 6 then (Option.bind (F_X6_hat l1 (J.2 l0 (l3 + (1 : Int32)).toNatClampNeg) (J.2 l0 (l3 + (2 : Int32)).toNatClampNeg) J) fun q125 => (if zzIx (l3 + (1 : Int32)) (zSz l0) then (if zzIx (l3 + (2 : Int32)) (zSz l0) then (if zKd l2 = 7 then (Option.bind (F_X7_hat l2 (q125.2.2 l0 (l3 + (1 : Int32)).toNatClampNeg) (q125.2.2 l0 (l3 + (2 : Int32)).toNatClampNeg) q125.2) fun q129 => (if q125.1 = q129.1 then F_L_law_18 n l0 l1 l2 (l3 + 6) q129.2 else some ((0 : Int32), q129.2))) else none) else none) else none)) else none) else none) else none) else (if ((J.2 l0 l3.toNatClampNeg) &&& (31 : Int32)) = 14 then (if zzIx (l3 + (1 : Int32)) (zSz l0) then (if zzIx (l3 + (2 : Int32)) (zSz l0) then (if zKd l1 = 6 then (Option.bind (F_X6_front l1 (J.2 l0 (l3 + (1 : Int32)).toNatClampNeg) (J.2 l0 (l3 + (2 : Int32)).toNatClampNeg) J) fun q135 => (if zzIx (l3 + (1 : Int32)) (zSz l0) then (if zzIx (l3 + (2 : Int32)) (zSz l0) then (if zKd l2 = 7 then (Option.bind (F_X7_front l2 (q135.2.2 l0 (l3 + (1 : Int32)).toNatClampNeg) (q135.2.2 l0 (l3 + (2 : Int32)).toNatClampNeg) q135.2) fun q139 => (if q135.1 = q139.1 then F_L_law_18 n l0 l1 l2 (l3 + 6) q139.2 else some ((0 : Int32), q139.2))) else none) else none) else none)) else none) else none) else none) else (if ((J.2 l0 l3.toNatClampNeg) &&& (31 : Int32)) = 15 then (if zzIx (l3 + (1 : Int32)) (zSz l0) then (if zzIx (l3 + (2 : Int32)) (zSz l0) then (if zKd l1 = 6 then (Option.bind (F_X6_stop l1 (J.2 l0 (l3 + (1 : Int32)).toNatClampNeg) (J.2 l0 (l3 + (2 : Int32)).toNatClampNeg) J) fun q145 => (if zzIx (l3 + (1 : Int32)) (zSz l0) then (if zzIx (l3 + (2 : Int32)) (zSz l0) then (if zKd l2 = 7 then (Option.bind (F_X7_stop l2 (q145.2.2 l0 (l3 + (1 : Int32)).toNatClampNeg) (q145.2.2 l0 (l3 + (2 : Int32)).toNatClampNeg) q145.2) fun q149 => (if q145.1 = q149.1 then F_L_law_18 n l0 l1 l2 (l3 + 6) q149.2 else some ((0 : Int32), q149.2))) else none) else none) else none)) else none) else none) else none) else (if ((J.2 l0 l3.toNatClampNeg) &&& (31 : Int32)) = 16 then (if zzIx (l3 + (1 : Int32)) (zSz l0) then (if zzIx (l3 + (2 : Int32)) (zSz l0) then (if zKd l1 = 6 then (Option.bind (F_X6_tells l1 (J.2 l0 (l3 + (1 : Int32)).toNatClampNeg) (J.2 l0 (l3 + (2 : Int32)).toNatClampNeg) J) fun q155 => (if zzIx (l3 + (1 : Int32)) (zSz l0) then (if zzIx (l3 + (2 : Int32)) (zSz l0) then (if zKd l2 = 7 then (Option.bind (F_X7_tells l2 (q155.2.2 l0 (l3 + (1 : Int32)).toNatClampNeg) (q155.2.2 l0 (l3 + (2 : Int32)).toNatClampNeg) q155.2) fun q159 => (if q155.1 = q159.1 then F_L_law_18 n l0 l1 l2 (l3 + 6) q159.2 else some ((0 : Int32), q159.2))) else none) else none) else none)) else none) else none) else none) else (if ((J.2 l0 l3.toNatClampNeg) &&& (31 : Int32)) = 17 then (if zzIx (l3 + (1 : Int32)) (zSz l0) then (if zKd l1 = 6 then (Option.bind (F_X6_film l1 (J.2 l0 (l3 + (1 : Int32)).toNatClampNeg) J) fun q164 => (if zzIx (l3 + (1 : Int32)) (zSz l0) then (if zKd l2 = 7 then (Option.bind (F_X7_film l2 (q164.2.2 l0 (l3 + (1 : Int32)).toNatClampNeg) q164.2) fun q167 => (if q164.1 = q167.1 then F_L_law_18 n l0 l1 l2 (l3 + 6) q167.2 else some ((0 : Int32), q167.2))) else none) else none)) else none) else none) else (if ((J.2 l0 l3.toNatClampNeg) &&& (31 : Int32)) = 18 then (if zzIx (l3 + (1 : Int32)) (zSz l0) then (if zKd l1 = 6 then (Option.bind (F_X6_drawn l1 (J.2 l0 (l3 + (1 : Int32)).toNatClampNeg) J) fun q172 => (if zzIx (l3 + (1 : Int32)) (zSz l0) then (if zKd l2 = 7 then (Option.bind (F_X7_drawn l2 (q172.2.2 l0 (l3 + (1 : Int32)).toNatClampNeg) q172.2) fun q175 => (if q172.1 = q175.1 then F_L_law_18 n l0 l1 l2 (l3 + 6) q175.2 else some ((0 : Int32), q175.2))) else none) else none)) else none) else none) else (if ((J.2 l0 l3.toNatClampNeg) &&& (31 : Int32)) = 19 then (if zzIx (l3 + (1 : Int32)) (zSz l0) then (if zzIx (l3 + (2 : Int32)) (zSz l0) then (if zzIx (l3 + (3 : Int32)) (zSz l0) then (if zKd l1 = 6 then (Option.bind (F_X6_chance l1 (J.2 l0 (l3 + (1 : Int32)).toNatClampNeg) (J.2 l0 (l3 + (2 : Int32)).toNatClampNeg) (J.2 l0 (l3 + (3 : Int32)).toNatClampNeg) J) fun q182 => (if zzIx (l3 + (1 : Int32)) (zSz l0) then (if zzIx (l3 + (2 : Int32)) (zSz l0) then (if zzIx (l3 + (3 : Int32)) (zSz l0) then (if zKd l2 = 7 then (Option.bind (F_X7_chance l2 (q182.2.2 l0 (l3 + (1 : Int32)).toNatClampNeg) (q182.2.2 l0 (l3 + (2 : Int32)).toNatClampNeg) (q182.2.2 l0 (l3 + (3 : Int32)).toNatClampNeg) q182.2) fun q187 => (if (lg_cmp q182.1 q187.1) = (0 : Int32) then F_L_law_18 n l0 l1 l2 (l3 + 6) q187.2 else some ((0 : Int32), q187.2))) else none) else none) else none) else none)) else none) else none) else none) else none) else (if ((J.2 l0 l3.toNatClampNeg) &&& (31 : Int32)) = 20 then (if zKd l1 = 6 then (Option.bind (F_X6_image l1 J) fun q191 => (if zKd l2 = 7 then (Option.bind (F_X7_image l2 q191.2) fun q193 => (if q191.1 = q193.1 then F_L_law_18 n l0 l1 l2 (l3 + 6) q193.2 else some ((0 : Int32), q193.2))) else none)) else none) else (if ((J.2 l0 l3.toNatClampNeg) &&& (31 : Int32)) = 21 then (if zKd l1 = 6 then (Option.bind (F_X6_back l1 J) fun q197 => (if zKd l2 = 7 then (Option.bind (F_X7_back l2 q197.2) fun q199 => (if q197.1 = q199.1 then F_L_law_18 n l0 l1 l2 (l3 + 6) q199.2 else some ((0 : Int32), q199.2))) else none)) else none) else (if ((J.2 l0 l3.toNatClampNeg) &&& (31 : Int32)) = 22 then (if zzIx (l3 + (1 : Int32)) (zSz l0) then (if zKd l1 = 6 then (Option.bind (F_X6_count l1 (J.2 l0 (l3 + (1 : Int32)).toNatClampNeg) J) fun q204 => (if zzIx (l3 + (1 : Int32)) (zSz l0) then (if zKd l2 = 7 then (Option.bind (F_X7_count l2 (q204.2.2 l0 (l3 + (1 : Int32)).toNatClampNeg) q204.2) fun q207 => (if q204.1 = q207.1 then F_L_law_18 n l0 l1 l2 (l3 + 6) q207.2 else some ((0 : Int32), q207.2))) else none) else none)) else none) else none) else (if ((J.2 l0 l3.toNatClampNeg) &&& (31 : Int32)) = 23 then (if zzIx (l3 + (1 : Int32)) (zSz l0) then (if zzIx (l3 + (2 : Int32)) (zSz l0) then (if zzIx (l3 + (3 : Int32)) (zSz l0) then (if zKd l1 = 6 then (Option.bind (F_X6_sheet l1 (J.2 l0 (l3 + (1 : Int32)).toNatClampNeg) (J.2 l0 (l3 + (2 : Int32)).toNatClampNeg) (J.2 l0 (l3 + (3 : Int32)).toNatClampNeg) J) fun q214 => (if zzIx (l3 + (1 : Int32)) (zSz l0) then (if zzIx (l3 + (2 : Int32)) (zSz l0) then (if zzIx (l3 + (3 : Int32)) (zSz l0) then (if zKd l2 = 7 then (Option.bind (F_X7_sheet l2 (q214.2.2 l0 (l3 + (1 : Int32)).toNatClampNeg) (q214.2.2 l0 (l3 + (2 : Int32)).toNatClampNeg) (q214.2.2 l0 (l3 + (3 : Int32)).toNatClampNeg) q214.2) fun q219 => (if q214.1 = q219.1 then F_L_law_18 n l0 l1 l2 (l3 + 6) q219.2 else some ((0 : Int32), q219.2))) else none) else none) else none) else none)) else none) else none) else none) else none) else (if ((J.2 l0 l3.toNatClampNeg) &&& (31 : Int32)) = 24 then (if zzIx (l3 + (1 : Int32)) (zSz l0) then (if zzIx (l3 + (2 : Int32)) (zSz l0) then (if zzIx (l3 + (3 : Int32)) (zSz l0) then (if zKd l1 = 6 then (Option.bind (F_X6_cell l1 (J.2 l0 (l3 + (1 : Int32)).toNatClampNeg) (J.2 l0 (l3 + (2 : Int32)).toNatClampNeg) (J.2 l0 (l3 + (3 : Int32)).toNatClampNeg) J) fun q226 => (if zzIx (l3 + (1 : Int32)) (zSz l0) then (if zzIx (l3 + (2 : Int32)) (zSz l0) then (if zzIx (l3 + (3 : Int32)) (zSz l0) then (if zKd l2 = 7 then (Option.bind (F_X7_cell l2 (q226.2.2 l0 (l3 + (1 : Int32)).toNatClampNeg) (q226.2.2 l0 (l3 + (2 : Int32)).toNatClampNeg) (q226.2.2 l0 (l3 + (3 : Int32)).toNatClampNeg) q226.2) fun q231 => (if q226.1 = q231.1 then F_L_law_18 n l0 l1 l2 (l3 + 6) q231.2 else some ((0 : Int32), q231.2))) else none) else none) else none) else none)) else none) else none) else none) else none) else (if ((J.2 l0 l3.toNatClampNeg) &&& (31 : Int32)) = 25 then (if zzIx (l3 + (1 : Int32)) (zSz l0) then (if zzIx (l3 + (2 : Int32)) (zSz l0) then (if zzIx (l3 + (3 : Int32)) (zSz l0) then (if zzIx (l3 + (4 : Int32)) (zSz l0) then (if zzIx (l3 + (5 : Int32)) (zSz l0) then (if zKd l1 = 6 then (Option.bind (F_X6_copy l1 (J.2 l0 (l3 + (1 : Int32)).toNatClampNeg) (J.2 l0 (l3 + (2 : Int32)).toNatClampNeg) (J.2 l0 (l3 + (3 : Int32)).toNatClampNeg) (J.2 l0 (l3 + (4 : Int32)).toNatClampNeg) (J.2 l0 (l3 + (5 : Int32)).toNatClampNeg) J) fun q240 => (if zzIx (l3 + (1 : Int32)) (zSz l0) then (if zzIx (l3 + (2 : Int32)) (zSz l0) then (if zzIx (l3 + (3 : Int32)) (zSz l0) then (if zzIx (l3 + (4 : Int32)) (zSz l0) then (if zzIx (l3 + (5 : Int32)) (zSz l0) then (if zKd l2 = 7 then (Option.bind (F_X7_copy l2 (q240.2.2 l0 (l3 + (1 : Int32)).toNatClampNeg) (q240.2.2 l0 (l3 + (2 : Int32)).toNatClampNeg) (q240.2.2 l0 (l3 + (3 : Int32)).toNatClampNeg) (q240.2.2 l0 (l3 + (4 : Int32)).toNatClampNeg) (q240.2.2 l0 (l3 + (5 : Int32)).toNatClampNeg) q240.2) fun q247 => (if q240.1 = q247.1 then F_L_law_18 n l0 l1 l2 (l3 + 6) q247.2 else some ((0 : Int32), q247.2))) else none) else none) else none) else none) else none) else none)) else none) else none) else none) else none) else none) else none) else (if ((J.2 l0 l3.toNatClampNeg) &&& (31 : Int32)) = 26 then (if zzIx (l3 + (1 : Int32)) (zSz l0) then (if zzIx (l3 + (2 : Int32)) (zSz l0) then (if zzIx (l3 + (3 : Int32)) (zSz l0) then (if zzIx (l3 + (4 : Int32)) (zSz l0) then (if zKd l1 = 6 then (Option.bind (F_X6_passengers l1 (J.2 l0 (l3 + (1 : Int32)).toNatClampNeg) (J.2 l0 (l3 + (2 : Int32)).toNatClampNeg) (J.2 l0 (l3 + (3 : Int32)).toNatClampNeg) (J.2 l0 (l3 + (4 : Int32)).toNatClampNeg) J) fun q255 => (if zzIx (l3 + (1 : Int32)) (zSz l0) then (if zzIx (l3 + (2 : Int32)) (zSz l0) then (if zzIx (l3 + (3 : Int32)) (zSz l0) then (if zzIx (l3 + (4 : Int32)) (zSz l0) then (if zKd l2 = 7 then (Option.bind (F_X7_passengers l2 (q255.2.2 l0 (l3 + (1 : Int32)).toNatClampNeg) (q255.2.2 l0 (l3 + (2 : Int32)).toNatClampNeg) (q255.2.2 l0 (l3 + (3 : Int32)).toNatClampNeg) (q255.2.2 l0 (l3 + (4 : Int32)).toNatClampNeg) q255.2) fun q261 => (if q255.1 = q261.1 then F_L_law_18 n l0 l1 l2 (l3 + 6) q261.2 else some ((0 : Int32), q261.2))) else none) else none) else none) else none) else none)) else none) else none) else none) else none) else none) else (if ((J.2 l0 l3.toNatClampNeg) &&& (31 : Int32)) = 27 then (if zzIx (l3 + (1 : Int32)) (zSz l0) then (if zzIx (l3 + (2 : Int32)) (zSz l0) then (if zKd l1 = 6 then (Option.bind (F_X6_taken l1 (J.2 l0 (l3 + (1 : Int32)).toNatClampNeg) (J.2 l0 (l3 + (2 : Int32)).toNatClampNeg) J) fun q267 => (if zzIx (l3 + (1 : Int32)) (zSz l0) then (if zzIx (l3 + (2 : Int32)) (zSz l0) then (if zKd l2 = 7 then (Option.bind (F_X7_taken l2 (q267.2.2 l0 (l3 + (1 : Int32)).toNatClampNeg) (q267.2.2 l0 (l3 + (2 : Int32)).toNatClampNeg) q267.2) fun q271 => (if q267.1 = q271.1 then F_L_law_18 n l0 l1 l2 (l3 + 6) q271.2 else some ((0 : Int32), q271.2))) else none) else none) else none)) else none) else none) else none) else F_L_law_18 n l0 l1 l2 (l3 + 6) J)))))))))))))))))))))))))))) else none) else none)) else none)
set_option maxRecDepth 100000 in
set_option maxHeartbeats 2000000 in
theorem G_L_law_18 {d : Nat} (hd : 17 ≤ d) : ∀ (n : Nat) (l0 : Nat) (l1 : Nat) (l2 : Nat) (l3 : Int32) (J : zzJ) (r : Int32 × zzJ), F_L_law_18 n l0 l1 l2 l3 J = some r → zzEv d 213 18 [.ref l0, .ref l1, .ref l2, .int l3] [] (zK J) (some (.int r.1), zK r.2) := by
  intro n
  induction n with
  | zero => intro l0 l1 l2 l3 J r h; simp [F_L_law_18] at h
  | succ n ih =>
    intro l0 l1 l2 l3 J r h
    rw [F_L_law_18] at h
    refine ev_iload_n zo_213_18 rfl rfl rfl ?_
    refine ev_aload_n zo_213_19 rfl rfl rfl rfl ?_
    obtain ⟨c1, h⟩ := zz_chk h
    refine ev_alen zo_213_20 c1 rfl ?_
    refine ev_bipush (x := 6) zo_213_21 (by decide) rfl ?_
    refine ev_isub zo_213_23 rfl ?_
    by_cases c2 : ((Int32.ofNat (zSz l0)) - (6 : Int32)) < l3
    · rw [if_pos c2] at h
      refine ev_cmp_t (t := 1031) zo_213_24 rfl (zcm_gt c2) ?_
      refine ev_iconst (x := 1) zo_213_1031 (by decide) rfl ?_
      cases h
      exact ev_retZ zo_213_1032 zr_213 (Or.inr rfl)
    rw [if_neg c2] at h
    refine ev_cmp_f (t := 1031) zo_213_24 rfl (zcm_ngt c2) rfl ?_
    refine ev_aload_n zo_213_27 rfl rfl rfl rfl ?_
    refine ev_iload_n zo_213_28 rfl rfl rfl ?_
    obtain ⟨c3, h⟩ := zz_chk h
    obtain ⟨c4, h⟩ := zz_chk h
    refine ev_iald zo_213_29 c3 c4 rfl ?_
    refine ev_bipush (x := 31) zo_213_30 (by decide) rfl ?_
    refine ev_iand zo_213_32 rfl ?_
    by_cases s5 : ((J.2 l0 l3.toNatClampNeg) &&& (31 : Int32)) = 0
    · rw [if_pos s5] at h
      refine ev_tableIn (t := 160) zo_213_33 s5 rfl ?_
      refine ev_aload_n zo_213_160 rfl rfl rfl rfl ?_
      refine ev_aload_n zo_213_161 rfl rfl rfl rfl ?_
      refine ev_iload_n zo_213_162 rfl rfl rfl ?_
      refine ev_iconst (x := 1) zo_213_163 (by decide) rfl ?_
      refine ev_iadd zo_213_164 rfl ?_
      obtain ⟨c6, h⟩ := zz_chk h
      refine ev_iald zo_213_165 c3 c6 rfl ?_
      refine ev_aload_n zo_213_166 rfl rfl rfl rfl ?_
      refine ev_iload_n zo_213_167 rfl rfl rfl ?_
      refine ev_iconst (x := 2) zo_213_168 (by decide) rfl ?_
      refine ev_iadd zo_213_169 rfl ?_
      obtain ⟨c7, h⟩ := zz_chk h
      refine ev_iald zo_213_170 c3 c7 rfl ?_
      refine ev_aload_n zo_213_171 rfl rfl rfl rfl ?_
      refine ev_iload_n zo_213_172 rfl rfl rfl ?_
      refine ev_iconst (x := 3) zo_213_173 (by decide) rfl ?_
      refine ev_iadd zo_213_174 rfl ?_
      obtain ⟨c8, h⟩ := zz_chk h
      refine ev_iald zo_213_175 c3 c8 rfl ?_
      obtain ⟨c9, h⟩ := zz_chk h
      obtain ⟨q10, hq10, h⟩ := zz_bd h
      refine ev_cV (as := [.int (J.2 l0 (l3 + (3 : Int32)).toNatClampNeg), .int (J.2 l0 (l3 + (2 : Int32)).toNatClampNeg), .int (J.2 l0 (l3 + (1 : Int32)).toNatClampNeg)]) (lsn := [.ref l1, .int (J.2 l0 (l3 + (1 : Int32)).toNatClampNeg), .int (J.2 l0 (l3 + (2 : Int32)).toNatClampNeg), .int (J.2 l0 (l3 + (3 : Int32)).toNatClampNeg)]) (by omega) zo_213_176 zl_213_13 (by rw [zm_82]; rfl) (by rw [zm_82]; exact c9) (by rw [zm_82]; decide) (by unfold zzIn; rw [zm_82]; rfl) (by rw [zm_82]; exact Nat.le_of_ble_eq_true rfl) (Nat.le_of_ble_eq_true rfl) (G_X6_set (by omega) l1 (J.2 l0 (l3 + (1 : Int32)).toNatClampNeg) (J.2 l0 (l3 + (2 : Int32)).toNatClampNeg) (J.2 l0 (l3 + (3 : Int32)).toNatClampNeg) J q10 hq10) rfl ?_
      show zzEv _ _ _ _ [.int q10.1] _ _
      refine ev_aload_n zo_213_179 rfl rfl rfl rfl ?_
      refine ev_aload_n zo_213_180 rfl rfl rfl rfl ?_
      refine ev_iload_n zo_213_181 rfl rfl rfl ?_
      refine ev_iconst (x := 1) zo_213_182 (by decide) rfl ?_
      refine ev_iadd zo_213_183 rfl ?_
      obtain ⟨c11, h⟩ := zz_chk h
      refine ev_iald zo_213_184 c3 c11 rfl ?_
      refine ev_aload_n zo_213_185 rfl rfl rfl rfl ?_
      refine ev_iload_n zo_213_186 rfl rfl rfl ?_
      refine ev_iconst (x := 2) zo_213_187 (by decide) rfl ?_
      refine ev_iadd zo_213_188 rfl ?_
      obtain ⟨c12, h⟩ := zz_chk h
      refine ev_iald zo_213_189 c3 c12 rfl ?_
      refine ev_aload_n zo_213_190 rfl rfl rfl rfl ?_
      refine ev_iload_n zo_213_191 rfl rfl rfl ?_
      refine ev_iconst (x := 3) zo_213_192 (by decide) rfl ?_
      refine ev_iadd zo_213_193 rfl ?_
      obtain ⟨c13, h⟩ := zz_chk h
      refine ev_iald zo_213_194 c3 c13 rfl ?_
      obtain ⟨c14, h⟩ := zz_chk h
      obtain ⟨q15, hq15, h⟩ := zz_bd h
      refine ev_cV (as := [.int (q10.2.2 l0 (l3 + (3 : Int32)).toNatClampNeg), .int (q10.2.2 l0 (l3 + (2 : Int32)).toNatClampNeg), .int (q10.2.2 l0 (l3 + (1 : Int32)).toNatClampNeg)]) (lsn := [.ref l2, .int (q10.2.2 l0 (l3 + (1 : Int32)).toNatClampNeg), .int (q10.2.2 l0 (l3 + (2 : Int32)).toNatClampNeg), .int (q10.2.2 l0 (l3 + (3 : Int32)).toNatClampNeg), zzU]) (by omega) zo_213_195 zl_213_17 (by rw [zm_143]; rfl) (by rw [zm_143]; exact c14) (by rw [zm_143]; decide) (by unfold zzIn; rw [zm_143]; rfl) (by rw [zm_143]; exact Nat.le_of_ble_eq_true rfl) (Nat.le_of_ble_eq_true rfl) (G_X7_set (by omega) l2 (q10.2.2 l0 (l3 + (1 : Int32)).toNatClampNeg) (q10.2.2 l0 (l3 + (2 : Int32)).toNatClampNeg) (q10.2.2 l0 (l3 + (3 : Int32)).toNatClampNeg) q10.2 q15 hq15) rfl ?_
      show zzEv _ _ _ _ [.int q15.1, .int q10.1] _ _
      by_cases c16 : q10.1 = q15.1
      · rw [if_pos c16] at h
        refine ev_cmp_t (t := 1025) zo_213_198 rfl (zcm_eq c16) ?_
        refine ev_iinc (v := 6) zo_213_1025 rfl (by decide) (zz_set rfl (by decide) (Nat.le_of_ble_eq_true rfl)) rfl ?_
        show zzEv _ _ _ [.ref l0, .ref l1, .ref l2, .int (l3 + 6)] _ _ _
        refine ev_goto (t := 18) zo_213_1028 rfl ?_
        exact ih l0 l1 l2 (l3 + 6) q15.2 r h
      rw [if_neg c16] at h
      refine ev_cmp_f (t := 1025) zo_213_198 rfl (zcm_neq c16) rfl ?_
      refine ev_iconst (x := 0) zo_213_201 (by decide) rfl ?_
      cases h
      exact ev_retZ zo_213_202 zr_213 (Or.inl rfl)
    rw [if_neg s5] at h
    by_cases s17 : ((J.2 l0 l3.toNatClampNeg) &&& (31 : Int32)) = 1
    · rw [if_pos s17] at h
      refine ev_tableIn (t := 203) zo_213_33 s17 rfl ?_
      refine ev_aload_n zo_213_203 rfl rfl rfl rfl ?_
      refine ev_aload_n zo_213_204 rfl rfl rfl rfl ?_
      refine ev_iload_n zo_213_205 rfl rfl rfl ?_
      refine ev_iconst (x := 1) zo_213_206 (by decide) rfl ?_
      refine ev_iadd zo_213_207 rfl ?_
      obtain ⟨c18, h⟩ := zz_chk h
      refine ev_iald zo_213_208 c3 c18 rfl ?_
      refine ev_aload_n zo_213_209 rfl rfl rfl rfl ?_
      refine ev_iload_n zo_213_210 rfl rfl rfl ?_
      refine ev_iconst (x := 2) zo_213_211 (by decide) rfl ?_
      refine ev_iadd zo_213_212 rfl ?_
      obtain ⟨c19, h⟩ := zz_chk h
      refine ev_iald zo_213_213 c3 c19 rfl ?_
      obtain ⟨c20, h⟩ := zz_chk h
      obtain ⟨q21, hq21, h⟩ := zz_bd h
      refine ev_cV (as := [.int (J.2 l0 (l3 + (2 : Int32)).toNatClampNeg), .int (J.2 l0 (l3 + (1 : Int32)).toNatClampNeg)]) (lsn := [.ref l1, .int (J.2 l0 (l3 + (1 : Int32)).toNatClampNeg), .int (J.2 l0 (l3 + (2 : Int32)).toNatClampNeg)]) (by omega) zo_213_214 zl_213_18 (by rw [zm_84]; rfl) (by rw [zm_84]; exact c20) (by rw [zm_84]; decide) (by unfold zzIn; rw [zm_84]; rfl) (by rw [zm_84]; exact Nat.le_of_ble_eq_true rfl) (Nat.le_of_ble_eq_true rfl) (G_X6_passenger (by omega) l1 (J.2 l0 (l3 + (1 : Int32)).toNatClampNeg) (J.2 l0 (l3 + (2 : Int32)).toNatClampNeg) J q21 hq21) rfl ?_
      show zzEv _ _ _ _ [.int q21.1] _ _
      refine ev_aload_n zo_213_217 rfl rfl rfl rfl ?_
      refine ev_aload_n zo_213_218 rfl rfl rfl rfl ?_
      refine ev_iload_n zo_213_219 rfl rfl rfl ?_
      refine ev_iconst (x := 1) zo_213_220 (by decide) rfl ?_
      refine ev_iadd zo_213_221 rfl ?_
      obtain ⟨c22, h⟩ := zz_chk h
      refine ev_iald zo_213_222 c3 c22 rfl ?_
      refine ev_aload_n zo_213_223 rfl rfl rfl rfl ?_
      refine ev_iload_n zo_213_224 rfl rfl rfl ?_
      refine ev_iconst (x := 2) zo_213_225 (by decide) rfl ?_
      refine ev_iadd zo_213_226 rfl ?_
      obtain ⟨c23, h⟩ := zz_chk h
      refine ev_iald zo_213_227 c3 c23 rfl ?_
      obtain ⟨c24, h⟩ := zz_chk h
      obtain ⟨q25, hq25, h⟩ := zz_bd h
      refine ev_cV (as := [.int (q21.2.2 l0 (l3 + (2 : Int32)).toNatClampNeg), .int (q21.2.2 l0 (l3 + (1 : Int32)).toNatClampNeg)]) (lsn := [.ref l2, .int (q21.2.2 l0 (l3 + (1 : Int32)).toNatClampNeg), .int (q21.2.2 l0 (l3 + (2 : Int32)).toNatClampNeg)]) (by omega) zo_213_228 zl_213_22 (by rw [zm_145]; rfl) (by rw [zm_145]; exact c24) (by rw [zm_145]; decide) (by unfold zzIn; rw [zm_145]; rfl) (by rw [zm_145]; exact Nat.le_of_ble_eq_true rfl) (Nat.le_of_ble_eq_true rfl) (G_X7_passenger (by omega) l2 (q21.2.2 l0 (l3 + (1 : Int32)).toNatClampNeg) (q21.2.2 l0 (l3 + (2 : Int32)).toNatClampNeg) q21.2 q25 hq25) rfl ?_
      show zzEv _ _ _ _ [.int q25.1, .int q21.1] _ _
      by_cases c26 : q21.1 = q25.1
      · rw [if_pos c26] at h
        refine ev_cmp_t (t := 1025) zo_213_231 rfl (zcm_eq c26) ?_
        refine ev_iinc (v := 6) zo_213_1025 rfl (by decide) (zz_set rfl (by decide) (Nat.le_of_ble_eq_true rfl)) rfl ?_
        show zzEv _ _ _ [.ref l0, .ref l1, .ref l2, .int (l3 + 6)] _ _ _
        refine ev_goto (t := 18) zo_213_1028 rfl ?_
        exact ih l0 l1 l2 (l3 + 6) q25.2 r h
      rw [if_neg c26] at h
      refine ev_cmp_f (t := 1025) zo_213_231 rfl (zcm_neq c26) rfl ?_
      refine ev_iconst (x := 0) zo_213_234 (by decide) rfl ?_
      cases h
      exact ev_retZ zo_213_235 zr_213 (Or.inl rfl)
    rw [if_neg s17] at h
    by_cases s27 : ((J.2 l0 l3.toNatClampNeg) &&& (31 : Int32)) = 2
    · rw [if_pos s27] at h
      refine ev_tableIn (t := 236) zo_213_33 s27 rfl ?_
      refine ev_aload_n zo_213_236 rfl rfl rfl rfl ?_
      refine ev_aload_n zo_213_237 rfl rfl rfl rfl ?_
      refine ev_iload_n zo_213_238 rfl rfl rfl ?_
      refine ev_iconst (x := 1) zo_213_239 (by decide) rfl ?_
      refine ev_iadd zo_213_240 rfl ?_
      obtain ⟨c28, h⟩ := zz_chk h
      refine ev_iald zo_213_241 c3 c28 rfl ?_
      refine ev_aload_n zo_213_242 rfl rfl rfl rfl ?_
      refine ev_iload_n zo_213_243 rfl rfl rfl ?_
      refine ev_iconst (x := 2) zo_213_244 (by decide) rfl ?_
      refine ev_iadd zo_213_245 rfl ?_
      obtain ⟨c29, h⟩ := zz_chk h
      refine ev_iald zo_213_246 c3 c29 rfl ?_
      obtain ⟨c30, h⟩ := zz_chk h
      obtain ⟨q31, hq31, h⟩ := zz_bd h
      refine ev_cV (as := [.int (J.2 l0 (l3 + (2 : Int32)).toNatClampNeg), .int (J.2 l0 (l3 + (1 : Int32)).toNatClampNeg)]) (lsn := [.ref l1, .int (J.2 l0 (l3 + (1 : Int32)).toNatClampNeg), .int (J.2 l0 (l3 + (2 : Int32)).toNatClampNeg), zzU, zzU]) (by omega) zo_213_247 zl_213_23 (by rw [zm_85]; rfl) (by rw [zm_85]; exact c30) (by rw [zm_85]; decide) (by unfold zzIn; rw [zm_85]; rfl) (by rw [zm_85]; exact Nat.le_of_ble_eq_true rfl) (Nat.le_of_ble_eq_true rfl) (G_X6_sit (by omega) l1 (J.2 l0 (l3 + (1 : Int32)).toNatClampNeg) (J.2 l0 (l3 + (2 : Int32)).toNatClampNeg) J q31 hq31) rfl ?_
      show zzEv _ _ _ _ [.int q31.1] _ _
      refine ev_aload_n zo_213_250 rfl rfl rfl rfl ?_
      refine ev_aload_n zo_213_251 rfl rfl rfl rfl ?_
      refine ev_iload_n zo_213_252 rfl rfl rfl ?_
      refine ev_iconst (x := 1) zo_213_253 (by decide) rfl ?_
      refine ev_iadd zo_213_254 rfl ?_
      obtain ⟨c32, h⟩ := zz_chk h
      refine ev_iald zo_213_255 c3 c32 rfl ?_
      refine ev_aload_n zo_213_256 rfl rfl rfl rfl ?_
      refine ev_iload_n zo_213_257 rfl rfl rfl ?_
      refine ev_iconst (x := 2) zo_213_258 (by decide) rfl ?_
      refine ev_iadd zo_213_259 rfl ?_
      obtain ⟨c33, h⟩ := zz_chk h
      refine ev_iald zo_213_260 c3 c33 rfl ?_
      obtain ⟨c34, h⟩ := zz_chk h
      obtain ⟨q35, hq35, h⟩ := zz_bd h
      refine ev_cV (as := [.int (q31.2.2 l0 (l3 + (2 : Int32)).toNatClampNeg), .int (q31.2.2 l0 (l3 + (1 : Int32)).toNatClampNeg)]) (lsn := [.ref l2, .int (q31.2.2 l0 (l3 + (1 : Int32)).toNatClampNeg), .int (q31.2.2 l0 (l3 + (2 : Int32)).toNatClampNeg), zzU]) (by omega) zo_213_261 zl_213_26 (by rw [zm_147]; rfl) (by rw [zm_147]; exact c34) (by rw [zm_147]; decide) (by unfold zzIn; rw [zm_147]; rfl) (by rw [zm_147]; exact Nat.le_of_ble_eq_true rfl) (Nat.le_of_ble_eq_true rfl) (G_X7_sit (by omega) l2 (q31.2.2 l0 (l3 + (1 : Int32)).toNatClampNeg) (q31.2.2 l0 (l3 + (2 : Int32)).toNatClampNeg) q31.2 q35 hq35) rfl ?_
      show zzEv _ _ _ _ [.int q35.1, .int q31.1] _ _
      by_cases c36 : q31.1 = q35.1
      · rw [if_pos c36] at h
        refine ev_cmp_t (t := 1025) zo_213_264 rfl (zcm_eq c36) ?_
        refine ev_iinc (v := 6) zo_213_1025 rfl (by decide) (zz_set rfl (by decide) (Nat.le_of_ble_eq_true rfl)) rfl ?_
        show zzEv _ _ _ [.ref l0, .ref l1, .ref l2, .int (l3 + 6)] _ _ _
        refine ev_goto (t := 18) zo_213_1028 rfl ?_
        exact ih l0 l1 l2 (l3 + 6) q35.2 r h
      rw [if_neg c36] at h
      refine ev_cmp_f (t := 1025) zo_213_264 rfl (zcm_neq c36) rfl ?_
      refine ev_iconst (x := 0) zo_213_267 (by decide) rfl ?_
      cases h
      exact ev_retZ zo_213_268 zr_213 (Or.inl rfl)
    rw [if_neg s27] at h
    by_cases s37 : ((J.2 l0 l3.toNatClampNeg) &&& (31 : Int32)) = 3
    · rw [if_pos s37] at h
      refine ev_tableIn (t := 269) zo_213_33 s37 rfl ?_
      refine ev_aload_n zo_213_269 rfl rfl rfl rfl ?_
      refine ev_aload_n zo_213_270 rfl rfl rfl rfl ?_
      refine ev_iload_n zo_213_271 rfl rfl rfl ?_
      refine ev_iconst (x := 1) zo_213_272 (by decide) rfl ?_
      refine ev_iadd zo_213_273 rfl ?_
      obtain ⟨c38, h⟩ := zz_chk h
      refine ev_iald zo_213_274 c3 c38 rfl ?_
      refine ev_aload_n zo_213_275 rfl rfl rfl rfl ?_
      refine ev_iload_n zo_213_276 rfl rfl rfl ?_
      refine ev_iconst (x := 2) zo_213_277 (by decide) rfl ?_
      refine ev_iadd zo_213_278 rfl ?_
      obtain ⟨c39, h⟩ := zz_chk h
      refine ev_iald zo_213_279 c3 c39 rfl ?_
      obtain ⟨c40, h⟩ := zz_chk h
      obtain ⟨q41, hq41, h⟩ := zz_bd h
      refine ev_cV (as := [.int (J.2 l0 (l3 + (2 : Int32)).toNatClampNeg), .int (J.2 l0 (l3 + (1 : Int32)).toNatClampNeg)]) (lsn := [.ref l1, .int (J.2 l0 (l3 + (1 : Int32)).toNatClampNeg), .int (J.2 l0 (l3 + (2 : Int32)).toNatClampNeg)]) (by omega) zo_213_280 zl_213_27 (by rw [zm_86]; rfl) (by rw [zm_86]; exact c40) (by rw [zm_86]; decide) (by unfold zzIn; rw [zm_86]; rfl) (by rw [zm_86]; exact Nat.le_of_ble_eq_true rfl) (Nat.le_of_ble_eq_true rfl) (G_X6_told (by omega) l1 (J.2 l0 (l3 + (1 : Int32)).toNatClampNeg) (J.2 l0 (l3 + (2 : Int32)).toNatClampNeg) J q41 hq41) rfl ?_
      show zzEv _ _ _ _ [.int q41.1] _ _
      refine ev_aload_n zo_213_283 rfl rfl rfl rfl ?_
      refine ev_aload_n zo_213_284 rfl rfl rfl rfl ?_
      refine ev_iload_n zo_213_285 rfl rfl rfl ?_
      refine ev_iconst (x := 1) zo_213_286 (by decide) rfl ?_
      refine ev_iadd zo_213_287 rfl ?_
      obtain ⟨c42, h⟩ := zz_chk h
      refine ev_iald zo_213_288 c3 c42 rfl ?_
      refine ev_aload_n zo_213_289 rfl rfl rfl rfl ?_
      refine ev_iload_n zo_213_290 rfl rfl rfl ?_
      refine ev_iconst (x := 2) zo_213_291 (by decide) rfl ?_
      refine ev_iadd zo_213_292 rfl ?_
      obtain ⟨c43, h⟩ := zz_chk h
      refine ev_iald zo_213_293 c3 c43 rfl ?_
      obtain ⟨c44, h⟩ := zz_chk h
      obtain ⟨q45, hq45, h⟩ := zz_bd h
      refine ev_cV (as := [.int (q41.2.2 l0 (l3 + (2 : Int32)).toNatClampNeg), .int (q41.2.2 l0 (l3 + (1 : Int32)).toNatClampNeg)]) (lsn := [.ref l2, .int (q41.2.2 l0 (l3 + (1 : Int32)).toNatClampNeg), .int (q41.2.2 l0 (l3 + (2 : Int32)).toNatClampNeg)]) (by omega) zo_213_294 zl_213_30 (by rw [zm_148]; rfl) (by rw [zm_148]; exact c44) (by rw [zm_148]; decide) (by unfold zzIn; rw [zm_148]; rfl) (by rw [zm_148]; exact Nat.le_of_ble_eq_true rfl) (Nat.le_of_ble_eq_true rfl) (G_X7_told (by omega) l2 (q41.2.2 l0 (l3 + (1 : Int32)).toNatClampNeg) (q41.2.2 l0 (l3 + (2 : Int32)).toNatClampNeg) q41.2 q45 hq45) rfl ?_
      show zzEv _ _ _ _ [.int q45.1, .int q41.1] _ _
      by_cases c46 : q41.1 = q45.1
      · rw [if_pos c46] at h
        refine ev_cmp_t (t := 1025) zo_213_297 rfl (zcm_eq c46) ?_
        refine ev_iinc (v := 6) zo_213_1025 rfl (by decide) (zz_set rfl (by decide) (Nat.le_of_ble_eq_true rfl)) rfl ?_
        show zzEv _ _ _ [.ref l0, .ref l1, .ref l2, .int (l3 + 6)] _ _ _
        refine ev_goto (t := 18) zo_213_1028 rfl ?_
        exact ih l0 l1 l2 (l3 + 6) q45.2 r h
      rw [if_neg c46] at h
      refine ev_cmp_f (t := 1025) zo_213_297 rfl (zcm_neq c46) rfl ?_
      refine ev_iconst (x := 0) zo_213_300 (by decide) rfl ?_
      cases h
      exact ev_retZ zo_213_301 zr_213 (Or.inl rfl)
    rw [if_neg s37] at h
    by_cases s47 : ((J.2 l0 l3.toNatClampNeg) &&& (31 : Int32)) = 4
    · rw [if_pos s47] at h
      refine ev_tableIn (t := 302) zo_213_33 s47 rfl ?_
      refine ev_aload_n zo_213_302 rfl rfl rfl rfl ?_
      refine ev_aload_n zo_213_303 rfl rfl rfl rfl ?_
      refine ev_iload_n zo_213_304 rfl rfl rfl ?_
      refine ev_iconst (x := 1) zo_213_305 (by decide) rfl ?_
      refine ev_iadd zo_213_306 rfl ?_
      obtain ⟨c48, h⟩ := zz_chk h
      refine ev_iald zo_213_307 c3 c48 rfl ?_
      obtain ⟨c49, h⟩ := zz_chk h
      obtain ⟨q50, hq50, h⟩ := zz_bd h
      refine ev_cV (as := [.int (J.2 l0 (l3 + (1 : Int32)).toNatClampNeg)]) (lsn := [.ref l1, .int (J.2 l0 (l3 + (1 : Int32)).toNatClampNeg)]) (by omega) zo_213_308 zl_213_31 (by rw [zm_87]; rfl) (by rw [zm_87]; exact c49) (by rw [zm_87]; decide) (by unfold zzIn; rw [zm_87]; rfl) (by rw [zm_87]; exact Nat.le_of_ble_eq_true rfl) (Nat.le_of_ble_eq_true rfl) (G_X6_who (by omega) l1 (J.2 l0 (l3 + (1 : Int32)).toNatClampNeg) J q50 hq50) rfl ?_
      show zzEv _ _ _ _ [.int q50.1] _ _
      refine ev_aload_n zo_213_311 rfl rfl rfl rfl ?_
      refine ev_aload_n zo_213_312 rfl rfl rfl rfl ?_
      refine ev_iload_n zo_213_313 rfl rfl rfl ?_
      refine ev_iconst (x := 1) zo_213_314 (by decide) rfl ?_
      refine ev_iadd zo_213_315 rfl ?_
      obtain ⟨c51, h⟩ := zz_chk h
      refine ev_iald zo_213_316 c3 c51 rfl ?_
      obtain ⟨c52, h⟩ := zz_chk h
      obtain ⟨q53, hq53, h⟩ := zz_bd h
      refine ev_cV (as := [.int (q50.2.2 l0 (l3 + (1 : Int32)).toNatClampNeg)]) (lsn := [.ref l2, .int (q50.2.2 l0 (l3 + (1 : Int32)).toNatClampNeg)]) (by omega) zo_213_317 zl_213_35 (by rw [zm_149]; rfl) (by rw [zm_149]; exact c52) (by rw [zm_149]; decide) (by unfold zzIn; rw [zm_149]; rfl) (by rw [zm_149]; exact Nat.le_of_ble_eq_true rfl) (Nat.le_of_ble_eq_true rfl) (G_X7_who (by omega) l2 (q50.2.2 l0 (l3 + (1 : Int32)).toNatClampNeg) q50.2 q53 hq53) rfl ?_
      show zzEv _ _ _ _ [.int q53.1, .int q50.1] _ _
      by_cases c54 : q50.1 = q53.1
      · rw [if_pos c54] at h
        refine ev_cmp_t (t := 1025) zo_213_320 rfl (zcm_eq c54) ?_
        refine ev_iinc (v := 6) zo_213_1025 rfl (by decide) (zz_set rfl (by decide) (Nat.le_of_ble_eq_true rfl)) rfl ?_
        show zzEv _ _ _ [.ref l0, .ref l1, .ref l2, .int (l3 + 6)] _ _ _
        refine ev_goto (t := 18) zo_213_1028 rfl ?_
        exact ih l0 l1 l2 (l3 + 6) q53.2 r h
      rw [if_neg c54] at h
      refine ev_cmp_f (t := 1025) zo_213_320 rfl (zcm_neq c54) rfl ?_
      refine ev_iconst (x := 0) zo_213_323 (by decide) rfl ?_
      cases h
      exact ev_retZ zo_213_324 zr_213 (Or.inl rfl)
    rw [if_neg s47] at h
    by_cases s55 : ((J.2 l0 l3.toNatClampNeg) &&& (31 : Int32)) = 5
    · rw [if_pos s55] at h
      refine ev_tableIn (t := 325) zo_213_33 s55 rfl ?_
      refine ev_aload_n zo_213_325 rfl rfl rfl rfl ?_
      refine ev_aload_n zo_213_326 rfl rfl rfl rfl ?_
      refine ev_iload_n zo_213_327 rfl rfl rfl ?_
      refine ev_iconst (x := 1) zo_213_328 (by decide) rfl ?_
      refine ev_iadd zo_213_329 rfl ?_
      obtain ⟨c56, h⟩ := zz_chk h
      refine ev_iald zo_213_330 c3 c56 rfl ?_
      obtain ⟨c57, h⟩ := zz_chk h
      obtain ⟨q58, hq58, h⟩ := zz_bd h
      refine ev_cV (as := [.int (J.2 l0 (l3 + (1 : Int32)).toNatClampNeg)]) (lsn := [.ref l1, .int (J.2 l0 (l3 + (1 : Int32)).toNatClampNeg)]) (by omega) zo_213_331 zl_213_36 (by rw [zm_88]; rfl) (by rw [zm_88]; exact c57) (by rw [zm_88]; decide) (by unfold zzIn; rw [zm_88]; rfl) (by rw [zm_88]; exact Nat.le_of_ble_eq_true rfl) (Nat.le_of_ble_eq_true rfl) (G_X6_feed (by omega) l1 (J.2 l0 (l3 + (1 : Int32)).toNatClampNeg) J q58 hq58) rfl ?_
      show zzEv _ _ _ _ [.int q58.1] _ _
      refine ev_aload_n zo_213_334 rfl rfl rfl rfl ?_
      refine ev_aload_n zo_213_335 rfl rfl rfl rfl ?_
      refine ev_iload_n zo_213_336 rfl rfl rfl ?_
      refine ev_iconst (x := 1) zo_213_337 (by decide) rfl ?_
      refine ev_iadd zo_213_338 rfl ?_
      obtain ⟨c59, h⟩ := zz_chk h
      refine ev_iald zo_213_339 c3 c59 rfl ?_
      obtain ⟨c60, h⟩ := zz_chk h
      obtain ⟨q61, hq61, h⟩ := zz_bd h
      refine ev_cV (as := [.int (q58.2.2 l0 (l3 + (1 : Int32)).toNatClampNeg)]) (lsn := [.ref l2, .int (q58.2.2 l0 (l3 + (1 : Int32)).toNatClampNeg)]) (by omega) zo_213_340 zl_213_39 (by rw [zm_150]; rfl) (by rw [zm_150]; exact c60) (by rw [zm_150]; decide) (by unfold zzIn; rw [zm_150]; rfl) (by rw [zm_150]; exact Nat.le_of_ble_eq_true rfl) (Nat.le_of_ble_eq_true rfl) (G_X7_feed (by omega) l2 (q58.2.2 l0 (l3 + (1 : Int32)).toNatClampNeg) q58.2 q61 hq61) rfl ?_
      show zzEv _ _ _ _ [.int q61.1, .int q58.1] _ _
      by_cases c62 : q58.1 = q61.1
      · rw [if_pos c62] at h
        refine ev_cmp_t (t := 1025) zo_213_343 rfl (zcm_eq c62) ?_
        refine ev_iinc (v := 6) zo_213_1025 rfl (by decide) (zz_set rfl (by decide) (Nat.le_of_ble_eq_true rfl)) rfl ?_
        show zzEv _ _ _ [.ref l0, .ref l1, .ref l2, .int (l3 + 6)] _ _ _
        refine ev_goto (t := 18) zo_213_1028 rfl ?_
        exact ih l0 l1 l2 (l3 + 6) q61.2 r h
      rw [if_neg c62] at h
      refine ev_cmp_f (t := 1025) zo_213_343 rfl (zcm_neq c62) rfl ?_
      refine ev_iconst (x := 0) zo_213_346 (by decide) rfl ?_
      cases h
      exact ev_retZ zo_213_347 zr_213 (Or.inl rfl)
    rw [if_neg s55] at h
    by_cases s63 : ((J.2 l0 l3.toNatClampNeg) &&& (31 : Int32)) = 6
    · rw [if_pos s63] at h
      refine ev_tableIn (t := 348) zo_213_33 s63 rfl ?_
      refine ev_aload_n zo_213_348 rfl rfl rfl rfl ?_
      obtain ⟨c64, h⟩ := zz_chk h
      obtain ⟨q65, hq65, h⟩ := zz_bd h
      refine ev_cV (as := []) (lsn := [.ref l1, zzU]) (by omega) zo_213_349 zl_213_40 (by rw [zm_89]; rfl) (by rw [zm_89]; exact c64) (by rw [zm_89]; decide) (by unfold zzIn; rw [zm_89]; rfl) (by rw [zm_89]; exact Nat.le_of_ble_eq_true rfl) (Nat.le_of_ble_eq_true rfl) (G_X6_text (by omega) l1 J q65 hq65) rfl ?_
      show zzEv _ _ _ _ [.int q65.1] _ _
      refine ev_aload_n zo_213_352 rfl rfl rfl rfl ?_
      obtain ⟨c66, h⟩ := zz_chk h
      obtain ⟨q67, hq67, h⟩ := zz_bd h
      refine ev_cV (as := []) (lsn := [.ref l2, zzU]) (by omega) zo_213_353 zl_213_44 (by rw [zm_167]; rfl) (by rw [zm_167]; exact c66) (by rw [zm_167]; decide) (by unfold zzIn; rw [zm_167]; rfl) (by rw [zm_167]; exact Nat.le_of_ble_eq_true rfl) (Nat.le_of_ble_eq_true rfl) (G_X7_text (by omega) l2 q65.2 q67 hq67) rfl ?_
      show zzEv _ _ _ _ [.int q67.1, .int q65.1] _ _
      by_cases c68 : q65.1 = q67.1
      · rw [if_pos c68] at h
        refine ev_cmp_t (t := 1025) zo_213_356 rfl (zcm_eq c68) ?_
        refine ev_iinc (v := 6) zo_213_1025 rfl (by decide) (zz_set rfl (by decide) (Nat.le_of_ble_eq_true rfl)) rfl ?_
        show zzEv _ _ _ [.ref l0, .ref l1, .ref l2, .int (l3 + 6)] _ _ _
        refine ev_goto (t := 18) zo_213_1028 rfl ?_
        exact ih l0 l1 l2 (l3 + 6) q67.2 r h
      rw [if_neg c68] at h
      refine ev_cmp_f (t := 1025) zo_213_356 rfl (zcm_neq c68) rfl ?_
      refine ev_iconst (x := 0) zo_213_359 (by decide) rfl ?_
      cases h
      exact ev_retZ zo_213_360 zr_213 (Or.inl rfl)
    rw [if_neg s63] at h
    by_cases s69 : ((J.2 l0 l3.toNatClampNeg) &&& (31 : Int32)) = 7
    · rw [if_pos s69] at h
      refine ev_tableIn (t := 361) zo_213_33 s69 rfl ?_
      refine ev_aload_n zo_213_361 rfl rfl rfl rfl ?_
      refine ev_aload_n zo_213_362 rfl rfl rfl rfl ?_
      refine ev_iload_n zo_213_363 rfl rfl rfl ?_
      refine ev_iconst (x := 1) zo_213_364 (by decide) rfl ?_
      refine ev_iadd zo_213_365 rfl ?_
      obtain ⟨c70, h⟩ := zz_chk h
      refine ev_iald zo_213_366 c3 c70 rfl ?_
      obtain ⟨c71, h⟩ := zz_chk h
      obtain ⟨q72, hq72, h⟩ := zz_bd h
      refine ev_cV (as := [.int (J.2 l0 (l3 + (1 : Int32)).toNatClampNeg)]) (lsn := [.ref l1, .int (J.2 l0 (l3 + (1 : Int32)).toNatClampNeg), zzU]) (by omega) zo_213_367 zl_213_45 (by rw [zm_90]; rfl) (by rw [zm_90]; exact c71) (by rw [zm_90]; decide) (by unfold zzIn; rw [zm_90]; rfl) (by rw [zm_90]; exact Nat.le_of_ble_eq_true rfl) (Nat.le_of_ble_eq_true rfl) (G_X6_force (by omega) l1 (J.2 l0 (l3 + (1 : Int32)).toNatClampNeg) J q72 hq72) rfl ?_
      show zzEv _ _ _ _ [.int q72.1] _ _
      refine ev_aload_n zo_213_370 rfl rfl rfl rfl ?_
      refine ev_aload_n zo_213_371 rfl rfl rfl rfl ?_
      refine ev_iload_n zo_213_372 rfl rfl rfl ?_
      refine ev_iconst (x := 1) zo_213_373 (by decide) rfl ?_
      refine ev_iadd zo_213_374 rfl ?_
      obtain ⟨c73, h⟩ := zz_chk h
      refine ev_iald zo_213_375 c3 c73 rfl ?_
      obtain ⟨c74, h⟩ := zz_chk h
      obtain ⟨q75, hq75, h⟩ := zz_bd h
      refine ev_cV (as := [.int (q72.2.2 l0 (l3 + (1 : Int32)).toNatClampNeg)]) (lsn := [.ref l2, .int (q72.2.2 l0 (l3 + (1 : Int32)).toNatClampNeg), zzU]) (by omega) zo_213_376 zl_213_48 (by rw [zm_168]; rfl) (by rw [zm_168]; exact c74) (by rw [zm_168]; decide) (by unfold zzIn; rw [zm_168]; rfl) (by rw [zm_168]; exact Nat.le_of_ble_eq_true rfl) (Nat.le_of_ble_eq_true rfl) (G_X7_force (by omega) l2 (q72.2.2 l0 (l3 + (1 : Int32)).toNatClampNeg) q72.2 q75 hq75) rfl ?_
      show zzEv _ _ _ _ [.int q75.1, .int q72.1] _ _
      by_cases c76 : q72.1 = q75.1
      · rw [if_pos c76] at h
        refine ev_cmp_t (t := 1025) zo_213_379 rfl (zcm_eq c76) ?_
        refine ev_iinc (v := 6) zo_213_1025 rfl (by decide) (zz_set rfl (by decide) (Nat.le_of_ble_eq_true rfl)) rfl ?_
        show zzEv _ _ _ [.ref l0, .ref l1, .ref l2, .int (l3 + 6)] _ _ _
        refine ev_goto (t := 18) zo_213_1028 rfl ?_
        exact ih l0 l1 l2 (l3 + 6) q75.2 r h
      rw [if_neg c76] at h
      refine ev_cmp_f (t := 1025) zo_213_379 rfl (zcm_neq c76) rfl ?_
      refine ev_iconst (x := 0) zo_213_382 (by decide) rfl ?_
      cases h
      exact ev_retZ zo_213_383 zr_213 (Or.inl rfl)
    rw [if_neg s69] at h
    by_cases s77 : ((J.2 l0 l3.toNatClampNeg) &&& (31 : Int32)) = 8
    · rw [if_pos s77] at h
      refine ev_tableIn (t := 384) zo_213_33 s77 rfl ?_
      refine ev_aload_n zo_213_384 rfl rfl rfl rfl ?_
      refine ev_aload_n zo_213_385 rfl rfl rfl rfl ?_
      refine ev_iload_n zo_213_386 rfl rfl rfl ?_
      refine ev_iconst (x := 1) zo_213_387 (by decide) rfl ?_
      refine ev_iadd zo_213_388 rfl ?_
      obtain ⟨c78, h⟩ := zz_chk h
      refine ev_iald zo_213_389 c3 c78 rfl ?_
      obtain ⟨c79, h⟩ := zz_chk h
      obtain ⟨q80, hq80, h⟩ := zz_bd h
      refine ev_cV (as := [.int (J.2 l0 (l3 + (1 : Int32)).toNatClampNeg)]) (lsn := [.ref l1, .int (J.2 l0 (l3 + (1 : Int32)).toNatClampNeg)]) (by omega) zo_213_390 zl_213_49 (by rw [zm_91]; rfl) (by rw [zm_91]; exact c79) (by rw [zm_91]; decide) (by unfold zzIn; rw [zm_91]; rfl) (by rw [zm_91]; exact Nat.le_of_ble_eq_true rfl) (Nat.le_of_ble_eq_true rfl) (G_X6_all (by omega) l1 (J.2 l0 (l3 + (1 : Int32)).toNatClampNeg) J q80 hq80) rfl ?_
      show zzEv _ _ _ _ [.int q80.1] _ _
      refine ev_aload_n zo_213_393 rfl rfl rfl rfl ?_
      refine ev_aload_n zo_213_394 rfl rfl rfl rfl ?_
      refine ev_iload_n zo_213_395 rfl rfl rfl ?_
      refine ev_iconst (x := 1) zo_213_396 (by decide) rfl ?_
      refine ev_iadd zo_213_397 rfl ?_
      obtain ⟨c81, h⟩ := zz_chk h
      refine ev_iald zo_213_398 c3 c81 rfl ?_
      obtain ⟨c82, h⟩ := zz_chk h
      obtain ⟨q83, hq83, h⟩ := zz_bd h
      refine ev_cV (as := [.int (q80.2.2 l0 (l3 + (1 : Int32)).toNatClampNeg)]) (lsn := [.ref l2, .int (q80.2.2 l0 (l3 + (1 : Int32)).toNatClampNeg), zzU, zzU]) (by omega) zo_213_399 zl_213_52 (by rw [zm_180]; rfl) (by rw [zm_180]; exact c82) (by rw [zm_180]; decide) (by unfold zzIn; rw [zm_180]; rfl) (by rw [zm_180]; exact Nat.le_of_ble_eq_true rfl) (Nat.le_of_ble_eq_true rfl) (G_X7_all (by omega) l2 (q80.2.2 l0 (l3 + (1 : Int32)).toNatClampNeg) q80.2 q83 hq83) rfl ?_
      show zzEv _ _ _ _ [.int q83.1, .int q80.1] _ _
      by_cases c84 : q80.1 = q83.1
      · rw [if_pos c84] at h
        refine ev_cmp_t (t := 1025) zo_213_402 rfl (zcm_eq c84) ?_
        refine ev_iinc (v := 6) zo_213_1025 rfl (by decide) (zz_set rfl (by decide) (Nat.le_of_ble_eq_true rfl)) rfl ?_
        show zzEv _ _ _ [.ref l0, .ref l1, .ref l2, .int (l3 + 6)] _ _ _
        refine ev_goto (t := 18) zo_213_1028 rfl ?_
        exact ih l0 l1 l2 (l3 + 6) q83.2 r h
      rw [if_neg c84] at h
      refine ev_cmp_f (t := 1025) zo_213_402 rfl (zcm_neq c84) rfl ?_
      refine ev_iconst (x := 0) zo_213_405 (by decide) rfl ?_
      cases h
      exact ev_retZ zo_213_406 zr_213 (Or.inl rfl)
    rw [if_neg s77] at h
    by_cases s85 : ((J.2 l0 l3.toNatClampNeg) &&& (31 : Int32)) = 9
    · rw [if_pos s85] at h
      refine ev_tableIn (t := 407) zo_213_33 s85 rfl ?_
      refine ev_aload_n zo_213_407 rfl rfl rfl rfl ?_
      refine ev_aload_n zo_213_408 rfl rfl rfl rfl ?_
      refine ev_iload_n zo_213_409 rfl rfl rfl ?_
      refine ev_iconst (x := 1) zo_213_410 (by decide) rfl ?_
      refine ev_iadd zo_213_411 rfl ?_
      obtain ⟨c86, h⟩ := zz_chk h
      refine ev_iald zo_213_412 c3 c86 rfl ?_
      refine ev_aload_n zo_213_413 rfl rfl rfl rfl ?_
      refine ev_iload_n zo_213_414 rfl rfl rfl ?_
      refine ev_iconst (x := 2) zo_213_415 (by decide) rfl ?_
      refine ev_iadd zo_213_416 rfl ?_
      obtain ⟨c87, h⟩ := zz_chk h
      refine ev_iald zo_213_417 c3 c87 rfl ?_
      obtain ⟨c88, h⟩ := zz_chk h
      obtain ⟨q89, hq89, h⟩ := zz_bd h
      refine ev_cV (as := [.int (J.2 l0 (l3 + (2 : Int32)).toNatClampNeg), .int (J.2 l0 (l3 + (1 : Int32)).toNatClampNeg)]) (lsn := [.ref l1, .int (J.2 l0 (l3 + (1 : Int32)).toNatClampNeg), .int (J.2 l0 (l3 + (2 : Int32)).toNatClampNeg), zzU, zzU, zzU]) (by omega) zo_213_418 zl_213_53 (by rw [zm_92]; rfl) (by rw [zm_92]; exact c88) (by rw [zm_92]; decide) (by unfold zzIn; rw [zm_92]; rfl) (by rw [zm_92]; exact Nat.le_of_ble_eq_true rfl) (Nat.le_of_ble_eq_true rfl) (G_X6_ride (by omega) l1 (J.2 l0 (l3 + (1 : Int32)).toNatClampNeg) (J.2 l0 (l3 + (2 : Int32)).toNatClampNeg) J q89 hq89) rfl ?_
      show zzEv _ _ _ _ [.int q89.1] _ _
      refine ev_aload_n zo_213_421 rfl rfl rfl rfl ?_
      refine ev_aload_n zo_213_422 rfl rfl rfl rfl ?_
      refine ev_iload_n zo_213_423 rfl rfl rfl ?_
      refine ev_iconst (x := 1) zo_213_424 (by decide) rfl ?_
      refine ev_iadd zo_213_425 rfl ?_
      obtain ⟨c90, h⟩ := zz_chk h
      refine ev_iald zo_213_426 c3 c90 rfl ?_
      refine ev_aload_n zo_213_427 rfl rfl rfl rfl ?_
      refine ev_iload_n zo_213_428 rfl rfl rfl ?_
      refine ev_iconst (x := 2) zo_213_429 (by decide) rfl ?_
      refine ev_iadd zo_213_430 rfl ?_
      obtain ⟨c91, h⟩ := zz_chk h
      refine ev_iald zo_213_431 c3 c91 rfl ?_
      obtain ⟨c92, h⟩ := zz_chk h
      obtain ⟨q93, hq93, h⟩ := zz_bd h
      refine ev_cV (as := [.int (q89.2.2 l0 (l3 + (2 : Int32)).toNatClampNeg), .int (q89.2.2 l0 (l3 + (1 : Int32)).toNatClampNeg)]) (lsn := [.ref l2, .int (q89.2.2 l0 (l3 + (1 : Int32)).toNatClampNeg), .int (q89.2.2 l0 (l3 + (2 : Int32)).toNatClampNeg), zzU]) (by omega) zo_213_432 zl_213_56 (by rw [zm_182]; rfl) (by rw [zm_182]; exact c92) (by rw [zm_182]; decide) (by unfold zzIn; rw [zm_182]; rfl) (by rw [zm_182]; exact Nat.le_of_ble_eq_true rfl) (Nat.le_of_ble_eq_true rfl) (G_X7_ride (by omega) l2 (q89.2.2 l0 (l3 + (1 : Int32)).toNatClampNeg) (q89.2.2 l0 (l3 + (2 : Int32)).toNatClampNeg) q89.2 q93 hq93) rfl ?_
      show zzEv _ _ _ _ [.int q93.1, .int q89.1] _ _
      by_cases c94 : q89.1 = q93.1
      · rw [if_pos c94] at h
        refine ev_cmp_t (t := 1025) zo_213_435 rfl (zcm_eq c94) ?_
        refine ev_iinc (v := 6) zo_213_1025 rfl (by decide) (zz_set rfl (by decide) (Nat.le_of_ble_eq_true rfl)) rfl ?_
        show zzEv _ _ _ [.ref l0, .ref l1, .ref l2, .int (l3 + 6)] _ _ _
        refine ev_goto (t := 18) zo_213_1028 rfl ?_
        exact ih l0 l1 l2 (l3 + 6) q93.2 r h
      rw [if_neg c94] at h
      refine ev_cmp_f (t := 1025) zo_213_435 rfl (zcm_neq c94) rfl ?_
      refine ev_iconst (x := 0) zo_213_438 (by decide) rfl ?_
      cases h
      exact ev_retZ zo_213_439 zr_213 (Or.inl rfl)
    rw [if_neg s85] at h
    by_cases s95 : ((J.2 l0 l3.toNatClampNeg) &&& (31 : Int32)) = 10
    · rw [if_pos s95] at h
      refine ev_tableIn (t := 440) zo_213_33 s95 rfl ?_
      refine ev_aload_n zo_213_440 rfl rfl rfl rfl ?_
      refine ev_aload_n zo_213_441 rfl rfl rfl rfl ?_
      refine ev_iload_n zo_213_442 rfl rfl rfl ?_
      refine ev_iconst (x := 1) zo_213_443 (by decide) rfl ?_
      refine ev_iadd zo_213_444 rfl ?_
      obtain ⟨c96, h⟩ := zz_chk h
      refine ev_iald zo_213_445 c3 c96 rfl ?_
      refine ev_aload_n zo_213_446 rfl rfl rfl rfl ?_
      refine ev_iload_n zo_213_447 rfl rfl rfl ?_
      refine ev_iconst (x := 2) zo_213_448 (by decide) rfl ?_
      refine ev_iadd zo_213_449 rfl ?_
      obtain ⟨c97, h⟩ := zz_chk h
      refine ev_iald zo_213_450 c3 c97 rfl ?_
      obtain ⟨c98, h⟩ := zz_chk h
      obtain ⟨q99, hq99, h⟩ := zz_bd h
      refine ev_cV (as := [.int (J.2 l0 (l3 + (2 : Int32)).toNatClampNeg), .int (J.2 l0 (l3 + (1 : Int32)).toNatClampNeg)]) (lsn := [.ref l1, .int (J.2 l0 (l3 + (1 : Int32)).toNatClampNeg), .int (J.2 l0 (l3 + (2 : Int32)).toNatClampNeg), zzU, zzU, zzU, zzU]) (by omega) zo_213_451 zl_213_57 (by rw [zm_94]; rfl) (by rw [zm_94]; exact c98) (by rw [zm_94]; decide) (by unfold zzIn; rw [zm_94]; rfl) (by rw [zm_94]; exact Nat.le_of_ble_eq_true rfl) (Nat.le_of_ble_eq_true rfl) (G_X6_best (by omega) l1 (J.2 l0 (l3 + (1 : Int32)).toNatClampNeg) (J.2 l0 (l3 + (2 : Int32)).toNatClampNeg) J q99 hq99) rfl ?_
      show zzEv _ _ _ _ [.int q99.1] _ _
      refine ev_aload_n zo_213_454 rfl rfl rfl rfl ?_
      refine ev_aload_n zo_213_455 rfl rfl rfl rfl ?_
      refine ev_iload_n zo_213_456 rfl rfl rfl ?_
      refine ev_iconst (x := 1) zo_213_457 (by decide) rfl ?_
      refine ev_iadd zo_213_458 rfl ?_
      obtain ⟨c100, h⟩ := zz_chk h
      refine ev_iald zo_213_459 c3 c100 rfl ?_
      refine ev_aload_n zo_213_460 rfl rfl rfl rfl ?_
      refine ev_iload_n zo_213_461 rfl rfl rfl ?_
      refine ev_iconst (x := 2) zo_213_462 (by decide) rfl ?_
      refine ev_iadd zo_213_463 rfl ?_
      obtain ⟨c101, h⟩ := zz_chk h
      refine ev_iald zo_213_464 c3 c101 rfl ?_
      obtain ⟨c102, h⟩ := zz_chk h
      obtain ⟨q103, hq103, h⟩ := zz_bd h
      refine ev_cV (as := [.int (q99.2.2 l0 (l3 + (2 : Int32)).toNatClampNeg), .int (q99.2.2 l0 (l3 + (1 : Int32)).toNatClampNeg)]) (lsn := [.ref l2, .int (q99.2.2 l0 (l3 + (1 : Int32)).toNatClampNeg), .int (q99.2.2 l0 (l3 + (2 : Int32)).toNatClampNeg), zzU, zzU, zzU]) (by omega) zo_213_465 zl_213_60 (by rw [zm_183]; rfl) (by rw [zm_183]; exact c102) (by rw [zm_183]; decide) (by unfold zzIn; rw [zm_183]; rfl) (by rw [zm_183]; exact Nat.le_of_ble_eq_true rfl) (Nat.le_of_ble_eq_true rfl) (G_X7_best (by omega) l2 (q99.2.2 l0 (l3 + (1 : Int32)).toNatClampNeg) (q99.2.2 l0 (l3 + (2 : Int32)).toNatClampNeg) q99.2 q103 hq103) rfl ?_
      show zzEv _ _ _ _ [.int q103.1, .int q99.1] _ _
      by_cases c104 : q99.1 = q103.1
      · rw [if_pos c104] at h
        refine ev_cmp_t (t := 1025) zo_213_468 rfl (zcm_eq c104) ?_
        refine ev_iinc (v := 6) zo_213_1025 rfl (by decide) (zz_set rfl (by decide) (Nat.le_of_ble_eq_true rfl)) rfl ?_
        show zzEv _ _ _ [.ref l0, .ref l1, .ref l2, .int (l3 + 6)] _ _ _
        refine ev_goto (t := 18) zo_213_1028 rfl ?_
        exact ih l0 l1 l2 (l3 + 6) q103.2 r h
      rw [if_neg c104] at h
      refine ev_cmp_f (t := 1025) zo_213_468 rfl (zcm_neq c104) rfl ?_
      refine ev_iconst (x := 0) zo_213_471 (by decide) rfl ?_
      cases h
      exact ev_retZ zo_213_472 zr_213 (Or.inl rfl)
    rw [if_neg s95] at h
    by_cases s105 : ((J.2 l0 l3.toNatClampNeg) &&& (31 : Int32)) = 11
    · rw [if_pos s105] at h
      refine ev_tableIn (t := 473) zo_213_33 s105 rfl ?_
      refine ev_aload_n zo_213_473 rfl rfl rfl rfl ?_
      refine ev_aload_n zo_213_474 rfl rfl rfl rfl ?_
      refine ev_iload_n zo_213_475 rfl rfl rfl ?_
      refine ev_iconst (x := 1) zo_213_476 (by decide) rfl ?_
      refine ev_iadd zo_213_477 rfl ?_
      obtain ⟨c106, h⟩ := zz_chk h
      refine ev_iald zo_213_478 c3 c106 rfl ?_
      obtain ⟨c107, h⟩ := zz_chk h
      obtain ⟨q108, hq108, h⟩ := zz_bd h
      refine ev_cV (as := [.int (J.2 l0 (l3 + (1 : Int32)).toNatClampNeg)]) (lsn := [.ref l1, .int (J.2 l0 (l3 + (1 : Int32)).toNatClampNeg), zzU, zzU, zzU, zzU, zzU]) (by omega) zo_213_479 zl_213_61 (by rw [zm_95]; rfl) (by rw [zm_95]; exact c107) (by rw [zm_95]; decide) (by unfold zzIn; rw [zm_95]; rfl) (by rw [zm_95]; exact Nat.le_of_ble_eq_true rfl) (Nat.le_of_ble_eq_true rfl) (G_X6_change (by omega) l1 (J.2 l0 (l3 + (1 : Int32)).toNatClampNeg) J q108 hq108) rfl ?_
      show zzEv _ _ _ _ [.int q108.1] _ _
      refine ev_aload_n zo_213_482 rfl rfl rfl rfl ?_
      refine ev_aload_n zo_213_483 rfl rfl rfl rfl ?_
      refine ev_iload_n zo_213_484 rfl rfl rfl ?_
      refine ev_iconst (x := 1) zo_213_485 (by decide) rfl ?_
      refine ev_iadd zo_213_486 rfl ?_
      obtain ⟨c109, h⟩ := zz_chk h
      refine ev_iald zo_213_487 c3 c109 rfl ?_
      obtain ⟨c110, h⟩ := zz_chk h
      obtain ⟨q111, hq111, h⟩ := zz_bd h
      refine ev_cV (as := [.int (q108.2.2 l0 (l3 + (1 : Int32)).toNatClampNeg)]) (lsn := [.ref l2, .int (q108.2.2 l0 (l3 + (1 : Int32)).toNatClampNeg), zzU, zzU]) (by omega) zo_213_488 zl_213_64 (by rw [zm_186]; rfl) (by rw [zm_186]; exact c110) (by rw [zm_186]; decide) (by unfold zzIn; rw [zm_186]; rfl) (by rw [zm_186]; exact Nat.le_of_ble_eq_true rfl) (Nat.le_of_ble_eq_true rfl) (G_X7_change (by omega) l2 (q108.2.2 l0 (l3 + (1 : Int32)).toNatClampNeg) q108.2 q111 hq111) rfl ?_
      show zzEv _ _ _ _ [.int q111.1, .int q108.1] _ _
      by_cases c112 : q108.1 = q111.1
      · rw [if_pos c112] at h
        refine ev_cmp_t (t := 1025) zo_213_491 rfl (zcm_eq c112) ?_
        refine ev_iinc (v := 6) zo_213_1025 rfl (by decide) (zz_set rfl (by decide) (Nat.le_of_ble_eq_true rfl)) rfl ?_
        show zzEv _ _ _ [.ref l0, .ref l1, .ref l2, .int (l3 + 6)] _ _ _
        refine ev_goto (t := 18) zo_213_1028 rfl ?_
        exact ih l0 l1 l2 (l3 + 6) q111.2 r h
      rw [if_neg c112] at h
      refine ev_cmp_f (t := 1025) zo_213_491 rfl (zcm_neq c112) rfl ?_
      refine ev_iconst (x := 0) zo_213_494 (by decide) rfl ?_
      cases h
      exact ev_retZ zo_213_495 zr_213 (Or.inl rfl)
    rw [if_neg s105] at h
    by_cases s113 : ((J.2 l0 l3.toNatClampNeg) &&& (31 : Int32)) = 12
    · rw [if_pos s113] at h
      refine ev_tableIn (t := 496) zo_213_33 s113 rfl ?_
      refine ev_aload_n zo_213_496 rfl rfl rfl rfl ?_
      refine ev_aload_n zo_213_497 rfl rfl rfl rfl ?_
      refine ev_iload_n zo_213_498 rfl rfl rfl ?_
      refine ev_iconst (x := 1) zo_213_499 (by decide) rfl ?_
      refine ev_iadd zo_213_500 rfl ?_
      obtain ⟨c114, h⟩ := zz_chk h
      refine ev_iald zo_213_501 c3 c114 rfl ?_
      obtain ⟨c115, h⟩ := zz_chk h
      obtain ⟨q116, hq116, h⟩ := zz_bd h
      refine ev_cV (as := [.int (J.2 l0 (l3 + (1 : Int32)).toNatClampNeg)]) (lsn := [.ref l1, .int (J.2 l0 (l3 + (1 : Int32)).toNatClampNeg), zzU, zzU, zzU, zzU, zzU, zzU, zzU]) (by omega) zo_213_502 zl_213_65 (by rw [zm_96]; rfl) (by rw [zm_96]; exact c115) (by rw [zm_96]; decide) (by unfold zzIn; rw [zm_96]; rfl) (by rw [zm_96]; exact Nat.le_of_ble_eq_true rfl) (Nat.le_of_ble_eq_true rfl) (G_X6_watch (by omega) l1 (J.2 l0 (l3 + (1 : Int32)).toNatClampNeg) J q116 hq116) rfl ?_
      show zzEv _ _ _ _ [.int q116.1] _ _
      refine ev_aload_n zo_213_505 rfl rfl rfl rfl ?_
      refine ev_aload_n zo_213_506 rfl rfl rfl rfl ?_
      refine ev_iload_n zo_213_507 rfl rfl rfl ?_
      refine ev_iconst (x := 1) zo_213_508 (by decide) rfl ?_
      refine ev_iadd zo_213_509 rfl ?_
      obtain ⟨c117, h⟩ := zz_chk h
      refine ev_iald zo_213_510 c3 c117 rfl ?_
      obtain ⟨c118, h⟩ := zz_chk h
      obtain ⟨q119, hq119, h⟩ := zz_bd h
      refine ev_cV (as := [.int (q116.2.2 l0 (l3 + (1 : Int32)).toNatClampNeg)]) (lsn := [.ref l2, .int (q116.2.2 l0 (l3 + (1 : Int32)).toNatClampNeg), zzU, zzU, zzU, zzU, zzU, zzU]) (by omega) zo_213_511 zl_213_68 (by rw [zm_188]; rfl) (by rw [zm_188]; exact c118) (by rw [zm_188]; decide) (by unfold zzIn; rw [zm_188]; rfl) (by rw [zm_188]; exact Nat.le_of_ble_eq_true rfl) (Nat.le_of_ble_eq_true rfl) (G_X7_watch (by omega) l2 (q116.2.2 l0 (l3 + (1 : Int32)).toNatClampNeg) q116.2 q119 hq119) rfl ?_
      show zzEv _ _ _ _ [.int q119.1, .int q116.1] _ _
      by_cases c120 : q116.1 = q119.1
      · rw [if_pos c120] at h
        refine ev_cmp_t (t := 1025) zo_213_514 rfl (zcm_eq c120) ?_
        refine ev_iinc (v := 6) zo_213_1025 rfl (by decide) (zz_set rfl (by decide) (Nat.le_of_ble_eq_true rfl)) rfl ?_
        show zzEv _ _ _ [.ref l0, .ref l1, .ref l2, .int (l3 + 6)] _ _ _
        refine ev_goto (t := 18) zo_213_1028 rfl ?_
        exact ih l0 l1 l2 (l3 + 6) q119.2 r h
      rw [if_neg c120] at h
      refine ev_cmp_f (t := 1025) zo_213_514 rfl (zcm_neq c120) rfl ?_
      refine ev_iconst (x := 0) zo_213_517 (by decide) rfl ?_
      cases h
      exact ev_retZ zo_213_518 zr_213 (Or.inl rfl)
    rw [if_neg s113] at h
    by_cases s121 : ((J.2 l0 l3.toNatClampNeg) &&& (31 : Int32)) = 13
    · rw [if_pos s121] at h
      refine ev_tableIn (t := 519) zo_213_33 s121 rfl ?_
      refine ev_aload_n zo_213_519 rfl rfl rfl rfl ?_
      refine ev_aload_n zo_213_520 rfl rfl rfl rfl ?_
      refine ev_iload_n zo_213_521 rfl rfl rfl ?_
      refine ev_iconst (x := 1) zo_213_522 (by decide) rfl ?_
      refine ev_iadd zo_213_523 rfl ?_
      obtain ⟨c122, h⟩ := zz_chk h
      refine ev_iald zo_213_524 c3 c122 rfl ?_
      refine ev_aload_n zo_213_525 rfl rfl rfl rfl ?_
      refine ev_iload_n zo_213_526 rfl rfl rfl ?_
      refine ev_iconst (x := 2) zo_213_527 (by decide) rfl ?_
      refine ev_iadd zo_213_528 rfl ?_
      obtain ⟨c123, h⟩ := zz_chk h
      refine ev_iald zo_213_529 c3 c123 rfl ?_
      obtain ⟨c124, h⟩ := zz_chk h
      obtain ⟨q125, hq125, h⟩ := zz_bd h
      refine ev_cV (as := [.int (J.2 l0 (l3 + (2 : Int32)).toNatClampNeg), .int (J.2 l0 (l3 + (1 : Int32)).toNatClampNeg)]) (lsn := [.ref l1, .int (J.2 l0 (l3 + (1 : Int32)).toNatClampNeg), .int (J.2 l0 (l3 + (2 : Int32)).toNatClampNeg), zzU]) (by omega) zo_213_530 zl_213_69 (by rw [zm_97]; rfl) (by rw [zm_97]; exact c124) (by rw [zm_97]; decide) (by unfold zzIn; rw [zm_97]; rfl) (by rw [zm_97]; exact Nat.le_of_ble_eq_true rfl) (Nat.le_of_ble_eq_true rfl) (G_X6_hat (by omega) l1 (J.2 l0 (l3 + (1 : Int32)).toNatClampNeg) (J.2 l0 (l3 + (2 : Int32)).toNatClampNeg) J q125 hq125) rfl ?_
      show zzEv _ _ _ _ [.int q125.1] _ _
      refine ev_aload_n zo_213_533 rfl rfl rfl rfl ?_
      refine ev_aload_n zo_213_534 rfl rfl rfl rfl ?_
      refine ev_iload_n zo_213_535 rfl rfl rfl ?_
      refine ev_iconst (x := 1) zo_213_536 (by decide) rfl ?_
      refine ev_iadd zo_213_537 rfl ?_
      obtain ⟨c126, h⟩ := zz_chk h
      refine ev_iald zo_213_538 c3 c126 rfl ?_
      refine ev_aload_n zo_213_539 rfl rfl rfl rfl ?_
      refine ev_iload_n zo_213_540 rfl rfl rfl ?_
      refine ev_iconst (x := 2) zo_213_541 (by decide) rfl ?_
      refine ev_iadd zo_213_542 rfl ?_
      obtain ⟨c127, h⟩ := zz_chk h
      refine ev_iald zo_213_543 c3 c127 rfl ?_
      obtain ⟨c128, h⟩ := zz_chk h
      obtain ⟨q129, hq129, h⟩ := zz_bd h
      refine ev_cV (as := [.int (q125.2.2 l0 (l3 + (2 : Int32)).toNatClampNeg), .int (q125.2.2 l0 (l3 + (1 : Int32)).toNatClampNeg)]) (lsn := [.ref l2, .int (q125.2.2 l0 (l3 + (1 : Int32)).toNatClampNeg), .int (q125.2.2 l0 (l3 + (2 : Int32)).toNatClampNeg), zzU]) (by omega) zo_213_544 zl_213_72 (by rw [zm_193]; rfl) (by rw [zm_193]; exact c128) (by rw [zm_193]; decide) (by unfold zzIn; rw [zm_193]; rfl) (by rw [zm_193]; exact Nat.le_of_ble_eq_true rfl) (Nat.le_of_ble_eq_true rfl) (G_X7_hat (by omega) l2 (q125.2.2 l0 (l3 + (1 : Int32)).toNatClampNeg) (q125.2.2 l0 (l3 + (2 : Int32)).toNatClampNeg) q125.2 q129 hq129) rfl ?_
      show zzEv _ _ _ _ [.int q129.1, .int q125.1] _ _
      by_cases c130 : q125.1 = q129.1
      · rw [if_pos c130] at h
        refine ev_cmp_t (t := 1025) zo_213_547 rfl (zcm_eq c130) ?_
        refine ev_iinc (v := 6) zo_213_1025 rfl (by decide) (zz_set rfl (by decide) (Nat.le_of_ble_eq_true rfl)) rfl ?_
        show zzEv _ _ _ [.ref l0, .ref l1, .ref l2, .int (l3 + 6)] _ _ _
        refine ev_goto (t := 18) zo_213_1028 rfl ?_
        exact ih l0 l1 l2 (l3 + 6) q129.2 r h
      rw [if_neg c130] at h
      refine ev_cmp_f (t := 1025) zo_213_547 rfl (zcm_neq c130) rfl ?_
      refine ev_iconst (x := 0) zo_213_550 (by decide) rfl ?_
      cases h
      exact ev_retZ zo_213_551 zr_213 (Or.inl rfl)
    rw [if_neg s121] at h
    by_cases s131 : ((J.2 l0 l3.toNatClampNeg) &&& (31 : Int32)) = 14
    · rw [if_pos s131] at h
      refine ev_tableIn (t := 552) zo_213_33 s131 rfl ?_
      refine ev_aload_n zo_213_552 rfl rfl rfl rfl ?_
      refine ev_aload_n zo_213_553 rfl rfl rfl rfl ?_
      refine ev_iload_n zo_213_554 rfl rfl rfl ?_
      refine ev_iconst (x := 1) zo_213_555 (by decide) rfl ?_
      refine ev_iadd zo_213_556 rfl ?_
      obtain ⟨c132, h⟩ := zz_chk h
      refine ev_iald zo_213_557 c3 c132 rfl ?_
      refine ev_aload_n zo_213_558 rfl rfl rfl rfl ?_
      refine ev_iload_n zo_213_559 rfl rfl rfl ?_
      refine ev_iconst (x := 2) zo_213_560 (by decide) rfl ?_
      refine ev_iadd zo_213_561 rfl ?_
      obtain ⟨c133, h⟩ := zz_chk h
      refine ev_iald zo_213_562 c3 c133 rfl ?_
      obtain ⟨c134, h⟩ := zz_chk h
      obtain ⟨q135, hq135, h⟩ := zz_bd h
      refine ev_cV (as := [.int (J.2 l0 (l3 + (2 : Int32)).toNatClampNeg), .int (J.2 l0 (l3 + (1 : Int32)).toNatClampNeg)]) (lsn := [.ref l1, .int (J.2 l0 (l3 + (1 : Int32)).toNatClampNeg), .int (J.2 l0 (l3 + (2 : Int32)).toNatClampNeg), zzU, zzU, zzU, zzU, zzU]) (by omega) zo_213_563 zl_213_73 (by rw [zm_98]; rfl) (by rw [zm_98]; exact c134) (by rw [zm_98]; decide) (by unfold zzIn; rw [zm_98]; rfl) (by rw [zm_98]; exact Nat.le_of_ble_eq_true rfl) (Nat.le_of_ble_eq_true rfl) (G_X6_front (by omega) l1 (J.2 l0 (l3 + (1 : Int32)).toNatClampNeg) (J.2 l0 (l3 + (2 : Int32)).toNatClampNeg) J q135 hq135) rfl ?_
      show zzEv _ _ _ _ [.int q135.1] _ _
      refine ev_aload_n zo_213_566 rfl rfl rfl rfl ?_
      refine ev_aload_n zo_213_567 rfl rfl rfl rfl ?_
      refine ev_iload_n zo_213_568 rfl rfl rfl ?_
      refine ev_iconst (x := 1) zo_213_569 (by decide) rfl ?_
      refine ev_iadd zo_213_570 rfl ?_
      obtain ⟨c136, h⟩ := zz_chk h
      refine ev_iald zo_213_571 c3 c136 rfl ?_
      refine ev_aload_n zo_213_572 rfl rfl rfl rfl ?_
      refine ev_iload_n zo_213_573 rfl rfl rfl ?_
      refine ev_iconst (x := 2) zo_213_574 (by decide) rfl ?_
      refine ev_iadd zo_213_575 rfl ?_
      obtain ⟨c137, h⟩ := zz_chk h
      refine ev_iald zo_213_576 c3 c137 rfl ?_
      obtain ⟨c138, h⟩ := zz_chk h
      obtain ⟨q139, hq139, h⟩ := zz_bd h
      refine ev_cV (as := [.int (q135.2.2 l0 (l3 + (2 : Int32)).toNatClampNeg), .int (q135.2.2 l0 (l3 + (1 : Int32)).toNatClampNeg)]) (lsn := [.ref l2, .int (q135.2.2 l0 (l3 + (1 : Int32)).toNatClampNeg), .int (q135.2.2 l0 (l3 + (2 : Int32)).toNatClampNeg), zzU, zzU, zzU]) (by omega) zo_213_577 zl_213_76 (by rw [zm_194]; rfl) (by rw [zm_194]; exact c138) (by rw [zm_194]; decide) (by unfold zzIn; rw [zm_194]; rfl) (by rw [zm_194]; exact Nat.le_of_ble_eq_true rfl) (Nat.le_of_ble_eq_true rfl) (G_X7_front (by omega) l2 (q135.2.2 l0 (l3 + (1 : Int32)).toNatClampNeg) (q135.2.2 l0 (l3 + (2 : Int32)).toNatClampNeg) q135.2 q139 hq139) rfl ?_
      show zzEv _ _ _ _ [.int q139.1, .int q135.1] _ _
      by_cases c140 : q135.1 = q139.1
      · rw [if_pos c140] at h
        refine ev_cmp_t (t := 1025) zo_213_580 rfl (zcm_eq c140) ?_
        refine ev_iinc (v := 6) zo_213_1025 rfl (by decide) (zz_set rfl (by decide) (Nat.le_of_ble_eq_true rfl)) rfl ?_
        show zzEv _ _ _ [.ref l0, .ref l1, .ref l2, .int (l3 + 6)] _ _ _
        refine ev_goto (t := 18) zo_213_1028 rfl ?_
        exact ih l0 l1 l2 (l3 + 6) q139.2 r h
      rw [if_neg c140] at h
      refine ev_cmp_f (t := 1025) zo_213_580 rfl (zcm_neq c140) rfl ?_
      refine ev_iconst (x := 0) zo_213_583 (by decide) rfl ?_
      cases h
      exact ev_retZ zo_213_584 zr_213 (Or.inl rfl)
    rw [if_neg s131] at h
    by_cases s141 : ((J.2 l0 l3.toNatClampNeg) &&& (31 : Int32)) = 15
    · rw [if_pos s141] at h
      refine ev_tableIn (t := 585) zo_213_33 s141 rfl ?_
      refine ev_aload_n zo_213_585 rfl rfl rfl rfl ?_
      refine ev_aload_n zo_213_586 rfl rfl rfl rfl ?_
      refine ev_iload_n zo_213_587 rfl rfl rfl ?_
      refine ev_iconst (x := 1) zo_213_588 (by decide) rfl ?_
      refine ev_iadd zo_213_589 rfl ?_
      obtain ⟨c142, h⟩ := zz_chk h
      refine ev_iald zo_213_590 c3 c142 rfl ?_
      refine ev_aload_n zo_213_591 rfl rfl rfl rfl ?_
      refine ev_iload_n zo_213_592 rfl rfl rfl ?_
      refine ev_iconst (x := 2) zo_213_593 (by decide) rfl ?_
      refine ev_iadd zo_213_594 rfl ?_
      obtain ⟨c143, h⟩ := zz_chk h
      refine ev_iald zo_213_595 c3 c143 rfl ?_
      obtain ⟨c144, h⟩ := zz_chk h
      obtain ⟨q145, hq145, h⟩ := zz_bd h
      refine ev_cV (as := [.int (J.2 l0 (l3 + (2 : Int32)).toNatClampNeg), .int (J.2 l0 (l3 + (1 : Int32)).toNatClampNeg)]) (lsn := [.ref l1, .int (J.2 l0 (l3 + (1 : Int32)).toNatClampNeg), .int (J.2 l0 (l3 + (2 : Int32)).toNatClampNeg), zzU, zzU, zzU, zzU]) (by omega) zo_213_596 zl_213_77 (by rw [zm_99]; rfl) (by rw [zm_99]; exact c144) (by rw [zm_99]; decide) (by unfold zzIn; rw [zm_99]; rfl) (by rw [zm_99]; exact Nat.le_of_ble_eq_true rfl) (Nat.le_of_ble_eq_true rfl) (G_X6_stop (by omega) l1 (J.2 l0 (l3 + (1 : Int32)).toNatClampNeg) (J.2 l0 (l3 + (2 : Int32)).toNatClampNeg) J q145 hq145) rfl ?_
      show zzEv _ _ _ _ [.int q145.1] _ _
      refine ev_aload_n zo_213_599 rfl rfl rfl rfl ?_
      refine ev_aload_n zo_213_600 rfl rfl rfl rfl ?_
      refine ev_iload_n zo_213_601 rfl rfl rfl ?_
      refine ev_iconst (x := 1) zo_213_602 (by decide) rfl ?_
      refine ev_iadd zo_213_603 rfl ?_
      obtain ⟨c146, h⟩ := zz_chk h
      refine ev_iald zo_213_604 c3 c146 rfl ?_
      refine ev_aload_n zo_213_605 rfl rfl rfl rfl ?_
      refine ev_iload_n zo_213_606 rfl rfl rfl ?_
      refine ev_iconst (x := 2) zo_213_607 (by decide) rfl ?_
      refine ev_iadd zo_213_608 rfl ?_
      obtain ⟨c147, h⟩ := zz_chk h
      refine ev_iald zo_213_609 c3 c147 rfl ?_
      obtain ⟨c148, h⟩ := zz_chk h
      obtain ⟨q149, hq149, h⟩ := zz_bd h
      refine ev_cV (as := [.int (q145.2.2 l0 (l3 + (2 : Int32)).toNatClampNeg), .int (q145.2.2 l0 (l3 + (1 : Int32)).toNatClampNeg)]) (lsn := [.ref l2, .int (q145.2.2 l0 (l3 + (1 : Int32)).toNatClampNeg), .int (q145.2.2 l0 (l3 + (2 : Int32)).toNatClampNeg), zzU]) (by omega) zo_213_610 zl_213_80 (by rw [zm_195]; rfl) (by rw [zm_195]; exact c148) (by rw [zm_195]; decide) (by unfold zzIn; rw [zm_195]; rfl) (by rw [zm_195]; exact Nat.le_of_ble_eq_true rfl) (Nat.le_of_ble_eq_true rfl) (G_X7_stop (by omega) l2 (q145.2.2 l0 (l3 + (1 : Int32)).toNatClampNeg) (q145.2.2 l0 (l3 + (2 : Int32)).toNatClampNeg) q145.2 q149 hq149) rfl ?_
      show zzEv _ _ _ _ [.int q149.1, .int q145.1] _ _
      by_cases c150 : q145.1 = q149.1
      · rw [if_pos c150] at h
        refine ev_cmp_t (t := 1025) zo_213_613 rfl (zcm_eq c150) ?_
        refine ev_iinc (v := 6) zo_213_1025 rfl (by decide) (zz_set rfl (by decide) (Nat.le_of_ble_eq_true rfl)) rfl ?_
        show zzEv _ _ _ [.ref l0, .ref l1, .ref l2, .int (l3 + 6)] _ _ _
        refine ev_goto (t := 18) zo_213_1028 rfl ?_
        exact ih l0 l1 l2 (l3 + 6) q149.2 r h
      rw [if_neg c150] at h
      refine ev_cmp_f (t := 1025) zo_213_613 rfl (zcm_neq c150) rfl ?_
      refine ev_iconst (x := 0) zo_213_616 (by decide) rfl ?_
      cases h
      exact ev_retZ zo_213_617 zr_213 (Or.inl rfl)
    rw [if_neg s141] at h
    by_cases s151 : ((J.2 l0 l3.toNatClampNeg) &&& (31 : Int32)) = 16
    · rw [if_pos s151] at h
      refine ev_tableIn (t := 618) zo_213_33 s151 rfl ?_
      refine ev_aload_n zo_213_618 rfl rfl rfl rfl ?_
      refine ev_aload_n zo_213_619 rfl rfl rfl rfl ?_
      refine ev_iload_n zo_213_620 rfl rfl rfl ?_
      refine ev_iconst (x := 1) zo_213_621 (by decide) rfl ?_
      refine ev_iadd zo_213_622 rfl ?_
      obtain ⟨c152, h⟩ := zz_chk h
      refine ev_iald zo_213_623 c3 c152 rfl ?_
      refine ev_aload_n zo_213_624 rfl rfl rfl rfl ?_
      refine ev_iload_n zo_213_625 rfl rfl rfl ?_
      refine ev_iconst (x := 2) zo_213_626 (by decide) rfl ?_
      refine ev_iadd zo_213_627 rfl ?_
      obtain ⟨c153, h⟩ := zz_chk h
      refine ev_iald zo_213_628 c3 c153 rfl ?_
      obtain ⟨c154, h⟩ := zz_chk h
      obtain ⟨q155, hq155, h⟩ := zz_bd h
      refine ev_cV (as := [.int (J.2 l0 (l3 + (2 : Int32)).toNatClampNeg), .int (J.2 l0 (l3 + (1 : Int32)).toNatClampNeg)]) (lsn := [.ref l1, .int (J.2 l0 (l3 + (1 : Int32)).toNatClampNeg), .int (J.2 l0 (l3 + (2 : Int32)).toNatClampNeg), zzU, zzU, zzU, zzU]) (by omega) zo_213_629 zl_213_81 (by rw [zm_104]; rfl) (by rw [zm_104]; exact c154) (by rw [zm_104]; decide) (by unfold zzIn; rw [zm_104]; rfl) (by rw [zm_104]; exact Nat.le_of_ble_eq_true rfl) (Nat.le_of_ble_eq_true rfl) (G_X6_tells (by omega) l1 (J.2 l0 (l3 + (1 : Int32)).toNatClampNeg) (J.2 l0 (l3 + (2 : Int32)).toNatClampNeg) J q155 hq155) rfl ?_
      show zzEv _ _ _ _ [.int q155.1] _ _
      refine ev_aload_n zo_213_632 rfl rfl rfl rfl ?_
      refine ev_aload_n zo_213_633 rfl rfl rfl rfl ?_
      refine ev_iload_n zo_213_634 rfl rfl rfl ?_
      refine ev_iconst (x := 1) zo_213_635 (by decide) rfl ?_
      refine ev_iadd zo_213_636 rfl ?_
      obtain ⟨c156, h⟩ := zz_chk h
      refine ev_iald zo_213_637 c3 c156 rfl ?_
      refine ev_aload_n zo_213_638 rfl rfl rfl rfl ?_
      refine ev_iload_n zo_213_639 rfl rfl rfl ?_
      refine ev_iconst (x := 2) zo_213_640 (by decide) rfl ?_
      refine ev_iadd zo_213_641 rfl ?_
      obtain ⟨c157, h⟩ := zz_chk h
      refine ev_iald zo_213_642 c3 c157 rfl ?_
      obtain ⟨c158, h⟩ := zz_chk h
      obtain ⟨q159, hq159, h⟩ := zz_bd h
      refine ev_cV (as := [.int (q155.2.2 l0 (l3 + (2 : Int32)).toNatClampNeg), .int (q155.2.2 l0 (l3 + (1 : Int32)).toNatClampNeg)]) (lsn := [.ref l2, .int (q155.2.2 l0 (l3 + (1 : Int32)).toNatClampNeg), .int (q155.2.2 l0 (l3 + (2 : Int32)).toNatClampNeg), zzU, zzU, zzU, zzU, zzU, zzU, zzU, zzU, zzU]) (by omega) zo_213_643 zl_213_84 (by rw [zm_198]; rfl) (by rw [zm_198]; exact c158) (by rw [zm_198]; decide) (by unfold zzIn; rw [zm_198]; rfl) (by rw [zm_198]; exact Nat.le_of_ble_eq_true rfl) (Nat.le_of_ble_eq_true rfl) (G_X7_tells (by omega) l2 (q155.2.2 l0 (l3 + (1 : Int32)).toNatClampNeg) (q155.2.2 l0 (l3 + (2 : Int32)).toNatClampNeg) q155.2 q159 hq159) rfl ?_
      show zzEv _ _ _ _ [.int q159.1, .int q155.1] _ _
      by_cases c160 : q155.1 = q159.1
      · rw [if_pos c160] at h
        refine ev_cmp_t (t := 1025) zo_213_646 rfl (zcm_eq c160) ?_
        refine ev_iinc (v := 6) zo_213_1025 rfl (by decide) (zz_set rfl (by decide) (Nat.le_of_ble_eq_true rfl)) rfl ?_
        show zzEv _ _ _ [.ref l0, .ref l1, .ref l2, .int (l3 + 6)] _ _ _
        refine ev_goto (t := 18) zo_213_1028 rfl ?_
        exact ih l0 l1 l2 (l3 + 6) q159.2 r h
      rw [if_neg c160] at h
      refine ev_cmp_f (t := 1025) zo_213_646 rfl (zcm_neq c160) rfl ?_
      refine ev_iconst (x := 0) zo_213_649 (by decide) rfl ?_
      cases h
      exact ev_retZ zo_213_650 zr_213 (Or.inl rfl)
    rw [if_neg s151] at h
    by_cases s161 : ((J.2 l0 l3.toNatClampNeg) &&& (31 : Int32)) = 17
    · rw [if_pos s161] at h
      refine ev_tableIn (t := 651) zo_213_33 s161 rfl ?_
      refine ev_aload_n zo_213_651 rfl rfl rfl rfl ?_
      refine ev_aload_n zo_213_652 rfl rfl rfl rfl ?_
      refine ev_iload_n zo_213_653 rfl rfl rfl ?_
      refine ev_iconst (x := 1) zo_213_654 (by decide) rfl ?_
      refine ev_iadd zo_213_655 rfl ?_
      obtain ⟨c162, h⟩ := zz_chk h
      refine ev_iald zo_213_656 c3 c162 rfl ?_
      obtain ⟨c163, h⟩ := zz_chk h
      obtain ⟨q164, hq164, h⟩ := zz_bd h
      refine ev_cV (as := [.int (J.2 l0 (l3 + (1 : Int32)).toNatClampNeg)]) (lsn := [.ref l1, .int (J.2 l0 (l3 + (1 : Int32)).toNatClampNeg), zzU, zzU]) (by omega) zo_213_657 zl_213_85 (by rw [zm_110]; rfl) (by rw [zm_110]; exact c163) (by rw [zm_110]; decide) (by unfold zzIn; rw [zm_110]; rfl) (by rw [zm_110]; exact Nat.le_of_ble_eq_true rfl) (Nat.le_of_ble_eq_true rfl) (G_X6_film (by omega) l1 (J.2 l0 (l3 + (1 : Int32)).toNatClampNeg) J q164 hq164) rfl ?_
      show zzEv _ _ _ _ [.int q164.1] _ _
      refine ev_aload_n zo_213_660 rfl rfl rfl rfl ?_
      refine ev_aload_n zo_213_661 rfl rfl rfl rfl ?_
      refine ev_iload_n zo_213_662 rfl rfl rfl ?_
      refine ev_iconst (x := 1) zo_213_663 (by decide) rfl ?_
      refine ev_iadd zo_213_664 rfl ?_
      obtain ⟨c165, h⟩ := zz_chk h
      refine ev_iald zo_213_665 c3 c165 rfl ?_
      obtain ⟨c166, h⟩ := zz_chk h
      obtain ⟨q167, hq167, h⟩ := zz_bd h
      refine ev_cV (as := [.int (q164.2.2 l0 (l3 + (1 : Int32)).toNatClampNeg)]) (lsn := [.ref l2, .int (q164.2.2 l0 (l3 + (1 : Int32)).toNatClampNeg), zzU]) (by omega) zo_213_666 zl_213_88 (by rw [zm_199]; rfl) (by rw [zm_199]; exact c166) (by rw [zm_199]; decide) (by unfold zzIn; rw [zm_199]; rfl) (by rw [zm_199]; exact Nat.le_of_ble_eq_true rfl) (Nat.le_of_ble_eq_true rfl) (G_X7_film (by omega) l2 (q164.2.2 l0 (l3 + (1 : Int32)).toNatClampNeg) q164.2 q167 hq167) rfl ?_
      show zzEv _ _ _ _ [.int q167.1, .int q164.1] _ _
      by_cases c168 : q164.1 = q167.1
      · rw [if_pos c168] at h
        refine ev_cmp_t (t := 1025) zo_213_669 rfl (zcm_eq c168) ?_
        refine ev_iinc (v := 6) zo_213_1025 rfl (by decide) (zz_set rfl (by decide) (Nat.le_of_ble_eq_true rfl)) rfl ?_
        show zzEv _ _ _ [.ref l0, .ref l1, .ref l2, .int (l3 + 6)] _ _ _
        refine ev_goto (t := 18) zo_213_1028 rfl ?_
        exact ih l0 l1 l2 (l3 + 6) q167.2 r h
      rw [if_neg c168] at h
      refine ev_cmp_f (t := 1025) zo_213_669 rfl (zcm_neq c168) rfl ?_
      refine ev_iconst (x := 0) zo_213_672 (by decide) rfl ?_
      cases h
      exact ev_retZ zo_213_673 zr_213 (Or.inl rfl)
    rw [if_neg s161] at h
    by_cases s169 : ((J.2 l0 l3.toNatClampNeg) &&& (31 : Int32)) = 18
    · rw [if_pos s169] at h
      refine ev_tableIn (t := 674) zo_213_33 s169 rfl ?_
      refine ev_aload_n zo_213_674 rfl rfl rfl rfl ?_
      refine ev_aload_n zo_213_675 rfl rfl rfl rfl ?_
      refine ev_iload_n zo_213_676 rfl rfl rfl ?_
      refine ev_iconst (x := 1) zo_213_677 (by decide) rfl ?_
      refine ev_iadd zo_213_678 rfl ?_
      obtain ⟨c170, h⟩ := zz_chk h
      refine ev_iald zo_213_679 c3 c170 rfl ?_
      obtain ⟨c171, h⟩ := zz_chk h
      obtain ⟨q172, hq172, h⟩ := zz_bd h
      refine ev_cV (as := [.int (J.2 l0 (l3 + (1 : Int32)).toNatClampNeg)]) (lsn := [.ref l1, .int (J.2 l0 (l3 + (1 : Int32)).toNatClampNeg), zzU, zzU]) (by omega) zo_213_680 zl_213_89 (by rw [zm_111]; rfl) (by rw [zm_111]; exact c171) (by rw [zm_111]; decide) (by unfold zzIn; rw [zm_111]; rfl) (by rw [zm_111]; exact Nat.le_of_ble_eq_true rfl) (Nat.le_of_ble_eq_true rfl) (G_X6_drawn (by omega) l1 (J.2 l0 (l3 + (1 : Int32)).toNatClampNeg) J q172 hq172) rfl ?_
      show zzEv _ _ _ _ [.int q172.1] _ _
      refine ev_aload_n zo_213_683 rfl rfl rfl rfl ?_
      refine ev_aload_n zo_213_684 rfl rfl rfl rfl ?_
      refine ev_iload_n zo_213_685 rfl rfl rfl ?_
      refine ev_iconst (x := 1) zo_213_686 (by decide) rfl ?_
      refine ev_iadd zo_213_687 rfl ?_
      obtain ⟨c173, h⟩ := zz_chk h
      refine ev_iald zo_213_688 c3 c173 rfl ?_
      obtain ⟨c174, h⟩ := zz_chk h
      obtain ⟨q175, hq175, h⟩ := zz_bd h
      refine ev_cV (as := [.int (q172.2.2 l0 (l3 + (1 : Int32)).toNatClampNeg)]) (lsn := [.ref l2, .int (q172.2.2 l0 (l3 + (1 : Int32)).toNatClampNeg)]) (by omega) zo_213_689 zl_213_92 (by rw [zm_201]; rfl) (by rw [zm_201]; exact c174) (by rw [zm_201]; decide) (by unfold zzIn; rw [zm_201]; rfl) (by rw [zm_201]; exact Nat.le_of_ble_eq_true rfl) (Nat.le_of_ble_eq_true rfl) (G_X7_drawn (by omega) l2 (q172.2.2 l0 (l3 + (1 : Int32)).toNatClampNeg) q172.2 q175 hq175) rfl ?_
      show zzEv _ _ _ _ [.int q175.1, .int q172.1] _ _
      by_cases c176 : q172.1 = q175.1
      · rw [if_pos c176] at h
        refine ev_cmp_t (t := 1025) zo_213_692 rfl (zcm_eq c176) ?_
        refine ev_iinc (v := 6) zo_213_1025 rfl (by decide) (zz_set rfl (by decide) (Nat.le_of_ble_eq_true rfl)) rfl ?_
        show zzEv _ _ _ [.ref l0, .ref l1, .ref l2, .int (l3 + 6)] _ _ _
        refine ev_goto (t := 18) zo_213_1028 rfl ?_
        exact ih l0 l1 l2 (l3 + 6) q175.2 r h
      rw [if_neg c176] at h
      refine ev_cmp_f (t := 1025) zo_213_692 rfl (zcm_neq c176) rfl ?_
      refine ev_iconst (x := 0) zo_213_695 (by decide) rfl ?_
      cases h
      exact ev_retZ zo_213_696 zr_213 (Or.inl rfl)
    rw [if_neg s169] at h
    by_cases s177 : ((J.2 l0 l3.toNatClampNeg) &&& (31 : Int32)) = 19
    · rw [if_pos s177] at h
      refine ev_tableIn (t := 697) zo_213_33 s177 rfl ?_
      refine ev_aload_n zo_213_697 rfl rfl rfl rfl ?_
      refine ev_aload_n zo_213_698 rfl rfl rfl rfl ?_
      refine ev_iload_n zo_213_699 rfl rfl rfl ?_
      refine ev_iconst (x := 1) zo_213_700 (by decide) rfl ?_
      refine ev_iadd zo_213_701 rfl ?_
      obtain ⟨c178, h⟩ := zz_chk h
      refine ev_iald zo_213_702 c3 c178 rfl ?_
      refine ev_aload_n zo_213_703 rfl rfl rfl rfl ?_
      refine ev_iload_n zo_213_704 rfl rfl rfl ?_
      refine ev_iconst (x := 2) zo_213_705 (by decide) rfl ?_
      refine ev_iadd zo_213_706 rfl ?_
      obtain ⟨c179, h⟩ := zz_chk h
      refine ev_iald zo_213_707 c3 c179 rfl ?_
      refine ev_aload_n zo_213_708 rfl rfl rfl rfl ?_
      refine ev_iload_n zo_213_709 rfl rfl rfl ?_
      refine ev_iconst (x := 3) zo_213_710 (by decide) rfl ?_
      refine ev_iadd zo_213_711 rfl ?_
      obtain ⟨c180, h⟩ := zz_chk h
      refine ev_iald zo_213_712 c3 c180 rfl ?_
      obtain ⟨c181, h⟩ := zz_chk h
      obtain ⟨q182, hq182, h⟩ := zz_bd h
      refine ev_cV (as := [.int (J.2 l0 (l3 + (3 : Int32)).toNatClampNeg), .int (J.2 l0 (l3 + (2 : Int32)).toNatClampNeg), .int (J.2 l0 (l3 + (1 : Int32)).toNatClampNeg)]) (lsn := [.ref l1, .int (J.2 l0 (l3 + (1 : Int32)).toNatClampNeg), .int (J.2 l0 (l3 + (2 : Int32)).toNatClampNeg), .int (J.2 l0 (l3 + (3 : Int32)).toNatClampNeg), zzU, zzU, zzU]) (by omega) zo_213_713 zl_213_93 (by rw [zm_112]; rfl) (by rw [zm_112]; exact c181) (by rw [zm_112]; decide) (by unfold zzIn; rw [zm_112]; rfl) (by rw [zm_112]; exact Nat.le_of_ble_eq_true rfl) (Nat.le_of_ble_eq_true rfl) (G_X6_chance (by omega) l1 (J.2 l0 (l3 + (1 : Int32)).toNatClampNeg) (J.2 l0 (l3 + (2 : Int32)).toNatClampNeg) (J.2 l0 (l3 + (3 : Int32)).toNatClampNeg) J q182 hq182) rfl ?_
      show zzEv _ _ _ _ [.long q182.1] _ _
      refine ev_aload_n zo_213_716 rfl rfl rfl rfl ?_
      refine ev_aload_n zo_213_717 rfl rfl rfl rfl ?_
      refine ev_iload_n zo_213_718 rfl rfl rfl ?_
      refine ev_iconst (x := 1) zo_213_719 (by decide) rfl ?_
      refine ev_iadd zo_213_720 rfl ?_
      obtain ⟨c183, h⟩ := zz_chk h
      refine ev_iald zo_213_721 c3 c183 rfl ?_
      refine ev_aload_n zo_213_722 rfl rfl rfl rfl ?_
      refine ev_iload_n zo_213_723 rfl rfl rfl ?_
      refine ev_iconst (x := 2) zo_213_724 (by decide) rfl ?_
      refine ev_iadd zo_213_725 rfl ?_
      obtain ⟨c184, h⟩ := zz_chk h
      refine ev_iald zo_213_726 c3 c184 rfl ?_
      refine ev_aload_n zo_213_727 rfl rfl rfl rfl ?_
      refine ev_iload_n zo_213_728 rfl rfl rfl ?_
      refine ev_iconst (x := 3) zo_213_729 (by decide) rfl ?_
      refine ev_iadd zo_213_730 rfl ?_
      obtain ⟨c185, h⟩ := zz_chk h
      refine ev_iald zo_213_731 c3 c185 rfl ?_
      obtain ⟨c186, h⟩ := zz_chk h
      obtain ⟨q187, hq187, h⟩ := zz_bd h
      refine ev_cV (as := [.int (q182.2.2 l0 (l3 + (3 : Int32)).toNatClampNeg), .int (q182.2.2 l0 (l3 + (2 : Int32)).toNatClampNeg), .int (q182.2.2 l0 (l3 + (1 : Int32)).toNatClampNeg)]) (lsn := [.ref l2, .int (q182.2.2 l0 (l3 + (1 : Int32)).toNatClampNeg), .int (q182.2.2 l0 (l3 + (2 : Int32)).toNatClampNeg), .int (q182.2.2 l0 (l3 + (3 : Int32)).toNatClampNeg), zzU, zzU, zzU, zzU, zzU, zzU, zzU, zzU, zzU]) (by omega) zo_213_732 zl_213_97 (by rw [zm_202]; rfl) (by rw [zm_202]; exact c186) (by rw [zm_202]; decide) (by unfold zzIn; rw [zm_202]; rfl) (by rw [zm_202]; exact Nat.le_of_ble_eq_true rfl) (Nat.le_of_ble_eq_true rfl) (G_X7_chance (by omega) l2 (q182.2.2 l0 (l3 + (1 : Int32)).toNatClampNeg) (q182.2.2 l0 (l3 + (2 : Int32)).toNatClampNeg) (q182.2.2 l0 (l3 + (3 : Int32)).toNatClampNeg) q182.2 q187 hq187) rfl ?_
      show zzEv _ _ _ _ [.long q187.1, .long q182.1] _ _
      refine ev_lcmp zo_213_735 rfl ?_
      by_cases c188 : (lg_cmp q182.1 q187.1) = (0 : Int32)
      · rw [if_pos c188] at h
        refine ev_if_t (t := 1025) zo_213_736 rfl (zcm_eq c188) ?_
        refine ev_iinc (v := 6) zo_213_1025 rfl (by decide) (zz_set rfl (by decide) (Nat.le_of_ble_eq_true rfl)) rfl ?_
        show zzEv _ _ _ [.ref l0, .ref l1, .ref l2, .int (l3 + 6)] _ _ _
        refine ev_goto (t := 18) zo_213_1028 rfl ?_
        exact ih l0 l1 l2 (l3 + 6) q187.2 r h
      rw [if_neg c188] at h
      refine ev_if_f (t := 1025) zo_213_736 rfl (zcm_neq c188) rfl ?_
      refine ev_iconst (x := 0) zo_213_739 (by decide) rfl ?_
      cases h
      exact ev_retZ zo_213_740 zr_213 (Or.inl rfl)
    rw [if_neg s177] at h
    by_cases s189 : ((J.2 l0 l3.toNatClampNeg) &&& (31 : Int32)) = 20
    · rw [if_pos s189] at h
      refine ev_tableIn (t := 741) zo_213_33 s189 rfl ?_
      refine ev_aload_n zo_213_741 rfl rfl rfl rfl ?_
      obtain ⟨c190, h⟩ := zz_chk h
      obtain ⟨q191, hq191, h⟩ := zz_bd h
      refine ev_cV (as := []) (lsn := [.ref l1]) (by omega) zo_213_742 zl_213_98 (by rw [zm_114]; rfl) (by rw [zm_114]; exact c190) (by rw [zm_114]; decide) (by unfold zzIn; rw [zm_114]; rfl) (by rw [zm_114]; exact Nat.le_of_ble_eq_true rfl) (Nat.le_of_ble_eq_true rfl) (G_X6_image (by omega) l1 J q191 hq191) rfl ?_
      show zzEv _ _ _ _ [.int q191.1] _ _
      refine ev_aload_n zo_213_745 rfl rfl rfl rfl ?_
      obtain ⟨c192, h⟩ := zz_chk h
      obtain ⟨q193, hq193, h⟩ := zz_bd h
      refine ev_cV (as := []) (lsn := [.ref l2, zzU]) (by omega) zo_213_746 zl_213_101 (by rw [zm_203]; rfl) (by rw [zm_203]; exact c192) (by rw [zm_203]; decide) (by unfold zzIn; rw [zm_203]; rfl) (by rw [zm_203]; exact Nat.le_of_ble_eq_true rfl) (Nat.le_of_ble_eq_true rfl) (G_X7_image (by omega) l2 q191.2 q193 hq193) rfl ?_
      show zzEv _ _ _ _ [.int q193.1, .int q191.1] _ _
      by_cases c194 : q191.1 = q193.1
      · rw [if_pos c194] at h
        refine ev_cmp_t (t := 1025) zo_213_749 rfl (zcm_eq c194) ?_
        refine ev_iinc (v := 6) zo_213_1025 rfl (by decide) (zz_set rfl (by decide) (Nat.le_of_ble_eq_true rfl)) rfl ?_
        show zzEv _ _ _ [.ref l0, .ref l1, .ref l2, .int (l3 + 6)] _ _ _
        refine ev_goto (t := 18) zo_213_1028 rfl ?_
        exact ih l0 l1 l2 (l3 + 6) q193.2 r h
      rw [if_neg c194] at h
      refine ev_cmp_f (t := 1025) zo_213_749 rfl (zcm_neq c194) rfl ?_
      refine ev_iconst (x := 0) zo_213_752 (by decide) rfl ?_
      cases h
      exact ev_retZ zo_213_753 zr_213 (Or.inl rfl)
    rw [if_neg s189] at h
    by_cases s195 : ((J.2 l0 l3.toNatClampNeg) &&& (31 : Int32)) = 21
    · rw [if_pos s195] at h
      refine ev_tableIn (t := 754) zo_213_33 s195 rfl ?_
      refine ev_aload_n zo_213_754 rfl rfl rfl rfl ?_
      obtain ⟨c196, h⟩ := zz_chk h
      obtain ⟨q197, hq197, h⟩ := zz_bd h
      refine ev_cV (as := []) (lsn := [.ref l1]) (by omega) zo_213_755 zl_213_102 (by rw [zm_115]; rfl) (by rw [zm_115]; exact c196) (by rw [zm_115]; decide) (by unfold zzIn; rw [zm_115]; rfl) (by rw [zm_115]; exact Nat.le_of_ble_eq_true rfl) (Nat.le_of_ble_eq_true rfl) (G_X6_back (by omega) l1 J q197 hq197) rfl ?_
      show zzEv _ _ _ _ [.int q197.1] _ _
      refine ev_aload_n zo_213_758 rfl rfl rfl rfl ?_
      obtain ⟨c198, h⟩ := zz_chk h
      obtain ⟨q199, hq199, h⟩ := zz_bd h
      refine ev_cV (as := []) (lsn := [.ref l2, zzU]) (by omega) zo_213_759 zl_213_105 (by rw [zm_204]; rfl) (by rw [zm_204]; exact c198) (by rw [zm_204]; decide) (by unfold zzIn; rw [zm_204]; rfl) (by rw [zm_204]; exact Nat.le_of_ble_eq_true rfl) (Nat.le_of_ble_eq_true rfl) (G_X7_back (by omega) l2 q197.2 q199 hq199) rfl ?_
      show zzEv _ _ _ _ [.int q199.1, .int q197.1] _ _
      by_cases c200 : q197.1 = q199.1
      · rw [if_pos c200] at h
        refine ev_cmp_t (t := 1025) zo_213_762 rfl (zcm_eq c200) ?_
        refine ev_iinc (v := 6) zo_213_1025 rfl (by decide) (zz_set rfl (by decide) (Nat.le_of_ble_eq_true rfl)) rfl ?_
        show zzEv _ _ _ [.ref l0, .ref l1, .ref l2, .int (l3 + 6)] _ _ _
        refine ev_goto (t := 18) zo_213_1028 rfl ?_
        exact ih l0 l1 l2 (l3 + 6) q199.2 r h
      rw [if_neg c200] at h
      refine ev_cmp_f (t := 1025) zo_213_762 rfl (zcm_neq c200) rfl ?_
      refine ev_iconst (x := 0) zo_213_765 (by decide) rfl ?_
      cases h
      exact ev_retZ zo_213_766 zr_213 (Or.inl rfl)
    rw [if_neg s195] at h
    by_cases s201 : ((J.2 l0 l3.toNatClampNeg) &&& (31 : Int32)) = 22
    · rw [if_pos s201] at h
      refine ev_tableIn (t := 767) zo_213_33 s201 rfl ?_
      refine ev_aload_n zo_213_767 rfl rfl rfl rfl ?_
      refine ev_aload_n zo_213_768 rfl rfl rfl rfl ?_
      refine ev_iload_n zo_213_769 rfl rfl rfl ?_
      refine ev_iconst (x := 1) zo_213_770 (by decide) rfl ?_
      refine ev_iadd zo_213_771 rfl ?_
      obtain ⟨c202, h⟩ := zz_chk h
      refine ev_iald zo_213_772 c3 c202 rfl ?_
      obtain ⟨c203, h⟩ := zz_chk h
      obtain ⟨q204, hq204, h⟩ := zz_bd h
      refine ev_cV (as := [.int (J.2 l0 (l3 + (1 : Int32)).toNatClampNeg)]) (lsn := [.ref l1, .int (J.2 l0 (l3 + (1 : Int32)).toNatClampNeg)]) (by omega) zo_213_773 zl_213_106 (by rw [zm_116]; rfl) (by rw [zm_116]; exact c203) (by rw [zm_116]; decide) (by unfold zzIn; rw [zm_116]; rfl) (by rw [zm_116]; exact Nat.le_of_ble_eq_true rfl) (Nat.le_of_ble_eq_true rfl) (G_X6_count (by omega) l1 (J.2 l0 (l3 + (1 : Int32)).toNatClampNeg) J q204 hq204) rfl ?_
      show zzEv _ _ _ _ [.int q204.1] _ _
      refine ev_aload_n zo_213_776 rfl rfl rfl rfl ?_
      refine ev_aload_n zo_213_777 rfl rfl rfl rfl ?_
      refine ev_iload_n zo_213_778 rfl rfl rfl ?_
      refine ev_iconst (x := 1) zo_213_779 (by decide) rfl ?_
      refine ev_iadd zo_213_780 rfl ?_
      obtain ⟨c205, h⟩ := zz_chk h
      refine ev_iald zo_213_781 c3 c205 rfl ?_
      obtain ⟨c206, h⟩ := zz_chk h
      obtain ⟨q207, hq207, h⟩ := zz_bd h
      refine ev_cV (as := [.int (q204.2.2 l0 (l3 + (1 : Int32)).toNatClampNeg)]) (lsn := [.ref l2, .int (q204.2.2 l0 (l3 + (1 : Int32)).toNatClampNeg), zzU, zzU]) (by omega) zo_213_782 zl_213_109 (by rw [zm_205]; rfl) (by rw [zm_205]; exact c206) (by rw [zm_205]; decide) (by unfold zzIn; rw [zm_205]; rfl) (by rw [zm_205]; exact Nat.le_of_ble_eq_true rfl) (Nat.le_of_ble_eq_true rfl) (G_X7_count (by omega) l2 (q204.2.2 l0 (l3 + (1 : Int32)).toNatClampNeg) q204.2 q207 hq207) rfl ?_
      show zzEv _ _ _ _ [.int q207.1, .int q204.1] _ _
      by_cases c208 : q204.1 = q207.1
      · rw [if_pos c208] at h
        refine ev_cmp_t (t := 1025) zo_213_785 rfl (zcm_eq c208) ?_
        refine ev_iinc (v := 6) zo_213_1025 rfl (by decide) (zz_set rfl (by decide) (Nat.le_of_ble_eq_true rfl)) rfl ?_
        show zzEv _ _ _ [.ref l0, .ref l1, .ref l2, .int (l3 + 6)] _ _ _
        refine ev_goto (t := 18) zo_213_1028 rfl ?_
        exact ih l0 l1 l2 (l3 + 6) q207.2 r h
      rw [if_neg c208] at h
      refine ev_cmp_f (t := 1025) zo_213_785 rfl (zcm_neq c208) rfl ?_
      refine ev_iconst (x := 0) zo_213_788 (by decide) rfl ?_
      cases h
      exact ev_retZ zo_213_789 zr_213 (Or.inl rfl)
    rw [if_neg s201] at h
    by_cases s209 : ((J.2 l0 l3.toNatClampNeg) &&& (31 : Int32)) = 23
    · rw [if_pos s209] at h
      refine ev_tableIn (t := 790) zo_213_33 s209 rfl ?_
      refine ev_aload_n zo_213_790 rfl rfl rfl rfl ?_
      refine ev_aload_n zo_213_791 rfl rfl rfl rfl ?_
      refine ev_iload_n zo_213_792 rfl rfl rfl ?_
      refine ev_iconst (x := 1) zo_213_793 (by decide) rfl ?_
      refine ev_iadd zo_213_794 rfl ?_
      obtain ⟨c210, h⟩ := zz_chk h
      refine ev_iald zo_213_795 c3 c210 rfl ?_
      refine ev_aload_n zo_213_796 rfl rfl rfl rfl ?_
      refine ev_iload_n zo_213_797 rfl rfl rfl ?_
      refine ev_iconst (x := 2) zo_213_798 (by decide) rfl ?_
      refine ev_iadd zo_213_799 rfl ?_
      obtain ⟨c211, h⟩ := zz_chk h
      refine ev_iald zo_213_800 c3 c211 rfl ?_
      refine ev_aload_n zo_213_801 rfl rfl rfl rfl ?_
      refine ev_iload_n zo_213_802 rfl rfl rfl ?_
      refine ev_iconst (x := 3) zo_213_803 (by decide) rfl ?_
      refine ev_iadd zo_213_804 rfl ?_
      obtain ⟨c212, h⟩ := zz_chk h
      refine ev_iald zo_213_805 c3 c212 rfl ?_
      obtain ⟨c213, h⟩ := zz_chk h
      obtain ⟨q214, hq214, h⟩ := zz_bd h
      refine ev_cV (as := [.int (J.2 l0 (l3 + (3 : Int32)).toNatClampNeg), .int (J.2 l0 (l3 + (2 : Int32)).toNatClampNeg), .int (J.2 l0 (l3 + (1 : Int32)).toNatClampNeg)]) (lsn := [.ref l1, .int (J.2 l0 (l3 + (1 : Int32)).toNatClampNeg), .int (J.2 l0 (l3 + (2 : Int32)).toNatClampNeg), .int (J.2 l0 (l3 + (3 : Int32)).toNatClampNeg), zzU]) (by omega) zo_213_806 zl_213_110 (by rw [zm_117]; rfl) (by rw [zm_117]; exact c213) (by rw [zm_117]; decide) (by unfold zzIn; rw [zm_117]; rfl) (by rw [zm_117]; exact Nat.le_of_ble_eq_true rfl) (Nat.le_of_ble_eq_true rfl) (G_X6_sheet (by omega) l1 (J.2 l0 (l3 + (1 : Int32)).toNatClampNeg) (J.2 l0 (l3 + (2 : Int32)).toNatClampNeg) (J.2 l0 (l3 + (3 : Int32)).toNatClampNeg) J q214 hq214) rfl ?_
      show zzEv _ _ _ _ [.int q214.1] _ _
      refine ev_aload_n zo_213_809 rfl rfl rfl rfl ?_
      refine ev_aload_n zo_213_810 rfl rfl rfl rfl ?_
      refine ev_iload_n zo_213_811 rfl rfl rfl ?_
      refine ev_iconst (x := 1) zo_213_812 (by decide) rfl ?_
      refine ev_iadd zo_213_813 rfl ?_
      obtain ⟨c215, h⟩ := zz_chk h
      refine ev_iald zo_213_814 c3 c215 rfl ?_
      refine ev_aload_n zo_213_815 rfl rfl rfl rfl ?_
      refine ev_iload_n zo_213_816 rfl rfl rfl ?_
      refine ev_iconst (x := 2) zo_213_817 (by decide) rfl ?_
      refine ev_iadd zo_213_818 rfl ?_
      obtain ⟨c216, h⟩ := zz_chk h
      refine ev_iald zo_213_819 c3 c216 rfl ?_
      refine ev_aload_n zo_213_820 rfl rfl rfl rfl ?_
      refine ev_iload_n zo_213_821 rfl rfl rfl ?_
      refine ev_iconst (x := 3) zo_213_822 (by decide) rfl ?_
      refine ev_iadd zo_213_823 rfl ?_
      obtain ⟨c217, h⟩ := zz_chk h
      refine ev_iald zo_213_824 c3 c217 rfl ?_
      obtain ⟨c218, h⟩ := zz_chk h
      obtain ⟨q219, hq219, h⟩ := zz_bd h
      refine ev_cV (as := [.int (q214.2.2 l0 (l3 + (3 : Int32)).toNatClampNeg), .int (q214.2.2 l0 (l3 + (2 : Int32)).toNatClampNeg), .int (q214.2.2 l0 (l3 + (1 : Int32)).toNatClampNeg)]) (lsn := [.ref l2, .int (q214.2.2 l0 (l3 + (1 : Int32)).toNatClampNeg), .int (q214.2.2 l0 (l3 + (2 : Int32)).toNatClampNeg), .int (q214.2.2 l0 (l3 + (3 : Int32)).toNatClampNeg), zzU]) (by omega) zo_213_825 zl_213_113 (by rw [zm_207]; rfl) (by rw [zm_207]; exact c218) (by rw [zm_207]; decide) (by unfold zzIn; rw [zm_207]; rfl) (by rw [zm_207]; exact Nat.le_of_ble_eq_true rfl) (Nat.le_of_ble_eq_true rfl) (G_X7_sheet (by omega) l2 (q214.2.2 l0 (l3 + (1 : Int32)).toNatClampNeg) (q214.2.2 l0 (l3 + (2 : Int32)).toNatClampNeg) (q214.2.2 l0 (l3 + (3 : Int32)).toNatClampNeg) q214.2 q219 hq219) rfl ?_
      show zzEv _ _ _ _ [.int q219.1, .int q214.1] _ _
      by_cases c220 : q214.1 = q219.1
      · rw [if_pos c220] at h
        refine ev_cmp_t (t := 1025) zo_213_828 rfl (zcm_eq c220) ?_
        refine ev_iinc (v := 6) zo_213_1025 rfl (by decide) (zz_set rfl (by decide) (Nat.le_of_ble_eq_true rfl)) rfl ?_
        show zzEv _ _ _ [.ref l0, .ref l1, .ref l2, .int (l3 + 6)] _ _ _
        refine ev_goto (t := 18) zo_213_1028 rfl ?_
        exact ih l0 l1 l2 (l3 + 6) q219.2 r h
      rw [if_neg c220] at h
      refine ev_cmp_f (t := 1025) zo_213_828 rfl (zcm_neq c220) rfl ?_
      refine ev_iconst (x := 0) zo_213_831 (by decide) rfl ?_
      cases h
      exact ev_retZ zo_213_832 zr_213 (Or.inl rfl)
    rw [if_neg s209] at h
    by_cases s221 : ((J.2 l0 l3.toNatClampNeg) &&& (31 : Int32)) = 24
    · rw [if_pos s221] at h
      refine ev_tableIn (t := 833) zo_213_33 s221 rfl ?_
      refine ev_aload_n zo_213_833 rfl rfl rfl rfl ?_
      refine ev_aload_n zo_213_834 rfl rfl rfl rfl ?_
      refine ev_iload_n zo_213_835 rfl rfl rfl ?_
      refine ev_iconst (x := 1) zo_213_836 (by decide) rfl ?_
      refine ev_iadd zo_213_837 rfl ?_
      obtain ⟨c222, h⟩ := zz_chk h
      refine ev_iald zo_213_838 c3 c222 rfl ?_
      refine ev_aload_n zo_213_839 rfl rfl rfl rfl ?_
      refine ev_iload_n zo_213_840 rfl rfl rfl ?_
      refine ev_iconst (x := 2) zo_213_841 (by decide) rfl ?_
      refine ev_iadd zo_213_842 rfl ?_
      obtain ⟨c223, h⟩ := zz_chk h
      refine ev_iald zo_213_843 c3 c223 rfl ?_
      refine ev_aload_n zo_213_844 rfl rfl rfl rfl ?_
      refine ev_iload_n zo_213_845 rfl rfl rfl ?_
      refine ev_iconst (x := 3) zo_213_846 (by decide) rfl ?_
      refine ev_iadd zo_213_847 rfl ?_
      obtain ⟨c224, h⟩ := zz_chk h
      refine ev_iald zo_213_848 c3 c224 rfl ?_
      obtain ⟨c225, h⟩ := zz_chk h
      obtain ⟨q226, hq226, h⟩ := zz_bd h
      refine ev_cV (as := [.int (J.2 l0 (l3 + (3 : Int32)).toNatClampNeg), .int (J.2 l0 (l3 + (2 : Int32)).toNatClampNeg), .int (J.2 l0 (l3 + (1 : Int32)).toNatClampNeg)]) (lsn := [.ref l1, .int (J.2 l0 (l3 + (1 : Int32)).toNatClampNeg), .int (J.2 l0 (l3 + (2 : Int32)).toNatClampNeg), .int (J.2 l0 (l3 + (3 : Int32)).toNatClampNeg), zzU]) (by omega) zo_213_849 zl_213_114 (by rw [zm_118]; rfl) (by rw [zm_118]; exact c225) (by rw [zm_118]; decide) (by unfold zzIn; rw [zm_118]; rfl) (by rw [zm_118]; exact Nat.le_of_ble_eq_true rfl) (Nat.le_of_ble_eq_true rfl) (G_X6_cell (by omega) l1 (J.2 l0 (l3 + (1 : Int32)).toNatClampNeg) (J.2 l0 (l3 + (2 : Int32)).toNatClampNeg) (J.2 l0 (l3 + (3 : Int32)).toNatClampNeg) J q226 hq226) rfl ?_
      show zzEv _ _ _ _ [.int q226.1] _ _
      refine ev_aload_n zo_213_852 rfl rfl rfl rfl ?_
      refine ev_aload_n zo_213_853 rfl rfl rfl rfl ?_
      refine ev_iload_n zo_213_854 rfl rfl rfl ?_
      refine ev_iconst (x := 1) zo_213_855 (by decide) rfl ?_
      refine ev_iadd zo_213_856 rfl ?_
      obtain ⟨c227, h⟩ := zz_chk h
      refine ev_iald zo_213_857 c3 c227 rfl ?_
      refine ev_aload_n zo_213_858 rfl rfl rfl rfl ?_
      refine ev_iload_n zo_213_859 rfl rfl rfl ?_
      refine ev_iconst (x := 2) zo_213_860 (by decide) rfl ?_
      refine ev_iadd zo_213_861 rfl ?_
      obtain ⟨c228, h⟩ := zz_chk h
      refine ev_iald zo_213_862 c3 c228 rfl ?_
      refine ev_aload_n zo_213_863 rfl rfl rfl rfl ?_
      refine ev_iload_n zo_213_864 rfl rfl rfl ?_
      refine ev_iconst (x := 3) zo_213_865 (by decide) rfl ?_
      refine ev_iadd zo_213_866 rfl ?_
      obtain ⟨c229, h⟩ := zz_chk h
      refine ev_iald zo_213_867 c3 c229 rfl ?_
      obtain ⟨c230, h⟩ := zz_chk h
      obtain ⟨q231, hq231, h⟩ := zz_bd h
      refine ev_cV (as := [.int (q226.2.2 l0 (l3 + (3 : Int32)).toNatClampNeg), .int (q226.2.2 l0 (l3 + (2 : Int32)).toNatClampNeg), .int (q226.2.2 l0 (l3 + (1 : Int32)).toNatClampNeg)]) (lsn := [.ref l2, .int (q226.2.2 l0 (l3 + (1 : Int32)).toNatClampNeg), .int (q226.2.2 l0 (l3 + (2 : Int32)).toNatClampNeg), .int (q226.2.2 l0 (l3 + (3 : Int32)).toNatClampNeg)]) (by omega) zo_213_868 zl_213_117 (by rw [zm_208]; rfl) (by rw [zm_208]; exact c230) (by rw [zm_208]; decide) (by unfold zzIn; rw [zm_208]; rfl) (by rw [zm_208]; exact Nat.le_of_ble_eq_true rfl) (Nat.le_of_ble_eq_true rfl) (G_X7_cell (by omega) l2 (q226.2.2 l0 (l3 + (1 : Int32)).toNatClampNeg) (q226.2.2 l0 (l3 + (2 : Int32)).toNatClampNeg) (q226.2.2 l0 (l3 + (3 : Int32)).toNatClampNeg) q226.2 q231 hq231) rfl ?_
      show zzEv _ _ _ _ [.int q231.1, .int q226.1] _ _
      by_cases c232 : q226.1 = q231.1
      · rw [if_pos c232] at h
        refine ev_cmp_t (t := 1025) zo_213_871 rfl (zcm_eq c232) ?_
        refine ev_iinc (v := 6) zo_213_1025 rfl (by decide) (zz_set rfl (by decide) (Nat.le_of_ble_eq_true rfl)) rfl ?_
        show zzEv _ _ _ [.ref l0, .ref l1, .ref l2, .int (l3 + 6)] _ _ _
        refine ev_goto (t := 18) zo_213_1028 rfl ?_
        exact ih l0 l1 l2 (l3 + 6) q231.2 r h
      rw [if_neg c232] at h
      refine ev_cmp_f (t := 1025) zo_213_871 rfl (zcm_neq c232) rfl ?_
      refine ev_iconst (x := 0) zo_213_874 (by decide) rfl ?_
      cases h
      exact ev_retZ zo_213_875 zr_213 (Or.inl rfl)
    rw [if_neg s221] at h
    by_cases s233 : ((J.2 l0 l3.toNatClampNeg) &&& (31 : Int32)) = 25
    · rw [if_pos s233] at h
      refine ev_tableIn (t := 876) zo_213_33 s233 rfl ?_
      refine ev_aload_n zo_213_876 rfl rfl rfl rfl ?_
      refine ev_aload_n zo_213_877 rfl rfl rfl rfl ?_
      refine ev_iload_n zo_213_878 rfl rfl rfl ?_
      refine ev_iconst (x := 1) zo_213_879 (by decide) rfl ?_
      refine ev_iadd zo_213_880 rfl ?_
      obtain ⟨c234, h⟩ := zz_chk h
      refine ev_iald zo_213_881 c3 c234 rfl ?_
      refine ev_aload_n zo_213_882 rfl rfl rfl rfl ?_
      refine ev_iload_n zo_213_883 rfl rfl rfl ?_
      refine ev_iconst (x := 2) zo_213_884 (by decide) rfl ?_
      refine ev_iadd zo_213_885 rfl ?_
      obtain ⟨c235, h⟩ := zz_chk h
      refine ev_iald zo_213_886 c3 c235 rfl ?_
      refine ev_aload_n zo_213_887 rfl rfl rfl rfl ?_
      refine ev_iload_n zo_213_888 rfl rfl rfl ?_
      refine ev_iconst (x := 3) zo_213_889 (by decide) rfl ?_
      refine ev_iadd zo_213_890 rfl ?_
      obtain ⟨c236, h⟩ := zz_chk h
      refine ev_iald zo_213_891 c3 c236 rfl ?_
      refine ev_aload_n zo_213_892 rfl rfl rfl rfl ?_
      refine ev_iload_n zo_213_893 rfl rfl rfl ?_
      refine ev_iconst (x := 4) zo_213_894 (by decide) rfl ?_
      refine ev_iadd zo_213_895 rfl ?_
      obtain ⟨c237, h⟩ := zz_chk h
      refine ev_iald zo_213_896 c3 c237 rfl ?_
      refine ev_aload_n zo_213_897 rfl rfl rfl rfl ?_
      refine ev_iload_n zo_213_898 rfl rfl rfl ?_
      refine ev_iconst (x := 5) zo_213_899 (by decide) rfl ?_
      refine ev_iadd zo_213_900 rfl ?_
      obtain ⟨c238, h⟩ := zz_chk h
      refine ev_iald zo_213_901 c3 c238 rfl ?_
      obtain ⟨c239, h⟩ := zz_chk h
      obtain ⟨q240, hq240, h⟩ := zz_bd h
      refine ev_cV (as := [.int (J.2 l0 (l3 + (5 : Int32)).toNatClampNeg), .int (J.2 l0 (l3 + (4 : Int32)).toNatClampNeg), .int (J.2 l0 (l3 + (3 : Int32)).toNatClampNeg), .int (J.2 l0 (l3 + (2 : Int32)).toNatClampNeg), .int (J.2 l0 (l3 + (1 : Int32)).toNatClampNeg)]) (lsn := [.ref l1, .int (J.2 l0 (l3 + (1 : Int32)).toNatClampNeg), .int (J.2 l0 (l3 + (2 : Int32)).toNatClampNeg), .int (J.2 l0 (l3 + (3 : Int32)).toNatClampNeg), .int (J.2 l0 (l3 + (4 : Int32)).toNatClampNeg), .int (J.2 l0 (l3 + (5 : Int32)).toNatClampNeg), zzU, zzU]) (by omega) zo_213_902 zl_213_118 (by rw [zm_119]; rfl) (by rw [zm_119]; exact c239) (by rw [zm_119]; decide) (by unfold zzIn; rw [zm_119]; rfl) (by rw [zm_119]; exact Nat.le_of_ble_eq_true rfl) (Nat.le_of_ble_eq_true rfl) (G_X6_copy (by omega) l1 (J.2 l0 (l3 + (1 : Int32)).toNatClampNeg) (J.2 l0 (l3 + (2 : Int32)).toNatClampNeg) (J.2 l0 (l3 + (3 : Int32)).toNatClampNeg) (J.2 l0 (l3 + (4 : Int32)).toNatClampNeg) (J.2 l0 (l3 + (5 : Int32)).toNatClampNeg) J q240 hq240) rfl ?_
      show zzEv _ _ _ _ [.int q240.1] _ _
      refine ev_aload_n zo_213_905 rfl rfl rfl rfl ?_
      refine ev_aload_n zo_213_906 rfl rfl rfl rfl ?_
      refine ev_iload_n zo_213_907 rfl rfl rfl ?_
      refine ev_iconst (x := 1) zo_213_908 (by decide) rfl ?_
      refine ev_iadd zo_213_909 rfl ?_
      obtain ⟨c241, h⟩ := zz_chk h
      refine ev_iald zo_213_910 c3 c241 rfl ?_
      refine ev_aload_n zo_213_911 rfl rfl rfl rfl ?_
      refine ev_iload_n zo_213_912 rfl rfl rfl ?_
      refine ev_iconst (x := 2) zo_213_913 (by decide) rfl ?_
      refine ev_iadd zo_213_914 rfl ?_
      obtain ⟨c242, h⟩ := zz_chk h
      refine ev_iald zo_213_915 c3 c242 rfl ?_
      refine ev_aload_n zo_213_916 rfl rfl rfl rfl ?_
      refine ev_iload_n zo_213_917 rfl rfl rfl ?_
      refine ev_iconst (x := 3) zo_213_918 (by decide) rfl ?_
      refine ev_iadd zo_213_919 rfl ?_
      obtain ⟨c243, h⟩ := zz_chk h
      refine ev_iald zo_213_920 c3 c243 rfl ?_
      refine ev_aload_n zo_213_921 rfl rfl rfl rfl ?_
      refine ev_iload_n zo_213_922 rfl rfl rfl ?_
      refine ev_iconst (x := 4) zo_213_923 (by decide) rfl ?_
      refine ev_iadd zo_213_924 rfl ?_
      obtain ⟨c244, h⟩ := zz_chk h
      refine ev_iald zo_213_925 c3 c244 rfl ?_
      refine ev_aload_n zo_213_926 rfl rfl rfl rfl ?_
      refine ev_iload_n zo_213_927 rfl rfl rfl ?_
      refine ev_iconst (x := 5) zo_213_928 (by decide) rfl ?_
      refine ev_iadd zo_213_929 rfl ?_
      obtain ⟨c245, h⟩ := zz_chk h
      refine ev_iald zo_213_930 c3 c245 rfl ?_
      obtain ⟨c246, h⟩ := zz_chk h
      obtain ⟨q247, hq247, h⟩ := zz_bd h
      refine ev_cV (as := [.int (q240.2.2 l0 (l3 + (5 : Int32)).toNatClampNeg), .int (q240.2.2 l0 (l3 + (4 : Int32)).toNatClampNeg), .int (q240.2.2 l0 (l3 + (3 : Int32)).toNatClampNeg), .int (q240.2.2 l0 (l3 + (2 : Int32)).toNatClampNeg), .int (q240.2.2 l0 (l3 + (1 : Int32)).toNatClampNeg)]) (lsn := [.ref l2, .int (q240.2.2 l0 (l3 + (1 : Int32)).toNatClampNeg), .int (q240.2.2 l0 (l3 + (2 : Int32)).toNatClampNeg), .int (q240.2.2 l0 (l3 + (3 : Int32)).toNatClampNeg), .int (q240.2.2 l0 (l3 + (4 : Int32)).toNatClampNeg), .int (q240.2.2 l0 (l3 + (5 : Int32)).toNatClampNeg), zzU, zzU, zzU]) (by omega) zo_213_931 zl_213_122 (by rw [zm_209]; rfl) (by rw [zm_209]; exact c246) (by rw [zm_209]; decide) (by unfold zzIn; rw [zm_209]; rfl) (by rw [zm_209]; exact Nat.le_of_ble_eq_true rfl) (Nat.le_of_ble_eq_true rfl) (G_X7_copy (by omega) l2 (q240.2.2 l0 (l3 + (1 : Int32)).toNatClampNeg) (q240.2.2 l0 (l3 + (2 : Int32)).toNatClampNeg) (q240.2.2 l0 (l3 + (3 : Int32)).toNatClampNeg) (q240.2.2 l0 (l3 + (4 : Int32)).toNatClampNeg) (q240.2.2 l0 (l3 + (5 : Int32)).toNatClampNeg) q240.2 q247 hq247) rfl ?_
      show zzEv _ _ _ _ [.int q247.1, .int q240.1] _ _
      by_cases c248 : q240.1 = q247.1
      · rw [if_pos c248] at h
        refine ev_cmp_t (t := 1025) zo_213_934 rfl (zcm_eq c248) ?_
        refine ev_iinc (v := 6) zo_213_1025 rfl (by decide) (zz_set rfl (by decide) (Nat.le_of_ble_eq_true rfl)) rfl ?_
        show zzEv _ _ _ [.ref l0, .ref l1, .ref l2, .int (l3 + 6)] _ _ _
        refine ev_goto (t := 18) zo_213_1028 rfl ?_
        exact ih l0 l1 l2 (l3 + 6) q247.2 r h
      rw [if_neg c248] at h
      refine ev_cmp_f (t := 1025) zo_213_934 rfl (zcm_neq c248) rfl ?_
      refine ev_iconst (x := 0) zo_213_937 (by decide) rfl ?_
      cases h
      exact ev_retZ zo_213_938 zr_213 (Or.inl rfl)
    rw [if_neg s233] at h
    by_cases s249 : ((J.2 l0 l3.toNatClampNeg) &&& (31 : Int32)) = 26
    · rw [if_pos s249] at h
      refine ev_tableIn (t := 939) zo_213_33 s249 rfl ?_
      refine ev_aload_n zo_213_939 rfl rfl rfl rfl ?_
      refine ev_aload_n zo_213_940 rfl rfl rfl rfl ?_
      refine ev_iload_n zo_213_941 rfl rfl rfl ?_
      refine ev_iconst (x := 1) zo_213_942 (by decide) rfl ?_
      refine ev_iadd zo_213_943 rfl ?_
      obtain ⟨c250, h⟩ := zz_chk h
      refine ev_iald zo_213_944 c3 c250 rfl ?_
      refine ev_aload_n zo_213_945 rfl rfl rfl rfl ?_
      refine ev_iload_n zo_213_946 rfl rfl rfl ?_
      refine ev_iconst (x := 2) zo_213_947 (by decide) rfl ?_
      refine ev_iadd zo_213_948 rfl ?_
      obtain ⟨c251, h⟩ := zz_chk h
      refine ev_iald zo_213_949 c3 c251 rfl ?_
      refine ev_aload_n zo_213_950 rfl rfl rfl rfl ?_
      refine ev_iload_n zo_213_951 rfl rfl rfl ?_
      refine ev_iconst (x := 3) zo_213_952 (by decide) rfl ?_
      refine ev_iadd zo_213_953 rfl ?_
      obtain ⟨c252, h⟩ := zz_chk h
      refine ev_iald zo_213_954 c3 c252 rfl ?_
      refine ev_aload_n zo_213_955 rfl rfl rfl rfl ?_
      refine ev_iload_n zo_213_956 rfl rfl rfl ?_
      refine ev_iconst (x := 4) zo_213_957 (by decide) rfl ?_
      refine ev_iadd zo_213_958 rfl ?_
      obtain ⟨c253, h⟩ := zz_chk h
      refine ev_iald zo_213_959 c3 c253 rfl ?_
      obtain ⟨c254, h⟩ := zz_chk h
      obtain ⟨q255, hq255, h⟩ := zz_bd h
      refine ev_cV (as := [.int (J.2 l0 (l3 + (4 : Int32)).toNatClampNeg), .int (J.2 l0 (l3 + (3 : Int32)).toNatClampNeg), .int (J.2 l0 (l3 + (2 : Int32)).toNatClampNeg), .int (J.2 l0 (l3 + (1 : Int32)).toNatClampNeg)]) (lsn := [.ref l1, .int (J.2 l0 (l3 + (1 : Int32)).toNatClampNeg), .int (J.2 l0 (l3 + (2 : Int32)).toNatClampNeg), .int (J.2 l0 (l3 + (3 : Int32)).toNatClampNeg), .int (J.2 l0 (l3 + (4 : Int32)).toNatClampNeg), zzU, zzU, zzU, zzU]) (by omega) zo_213_960 zl_213_123 (by rw [zm_120]; rfl) (by rw [zm_120]; exact c254) (by rw [zm_120]; decide) (by unfold zzIn; rw [zm_120]; rfl) (by rw [zm_120]; exact Nat.le_of_ble_eq_true rfl) (Nat.le_of_ble_eq_true rfl) (G_X6_passengers (by omega) l1 (J.2 l0 (l3 + (1 : Int32)).toNatClampNeg) (J.2 l0 (l3 + (2 : Int32)).toNatClampNeg) (J.2 l0 (l3 + (3 : Int32)).toNatClampNeg) (J.2 l0 (l3 + (4 : Int32)).toNatClampNeg) J q255 hq255) rfl ?_
      show zzEv _ _ _ _ [.int q255.1] _ _
      refine ev_aload_n zo_213_963 rfl rfl rfl rfl ?_
      refine ev_aload_n zo_213_964 rfl rfl rfl rfl ?_
      refine ev_iload_n zo_213_965 rfl rfl rfl ?_
      refine ev_iconst (x := 1) zo_213_966 (by decide) rfl ?_
      refine ev_iadd zo_213_967 rfl ?_
      obtain ⟨c256, h⟩ := zz_chk h
      refine ev_iald zo_213_968 c3 c256 rfl ?_
      refine ev_aload_n zo_213_969 rfl rfl rfl rfl ?_
      refine ev_iload_n zo_213_970 rfl rfl rfl ?_
      refine ev_iconst (x := 2) zo_213_971 (by decide) rfl ?_
      refine ev_iadd zo_213_972 rfl ?_
      obtain ⟨c257, h⟩ := zz_chk h
      refine ev_iald zo_213_973 c3 c257 rfl ?_
      refine ev_aload_n zo_213_974 rfl rfl rfl rfl ?_
      refine ev_iload_n zo_213_975 rfl rfl rfl ?_
      refine ev_iconst (x := 3) zo_213_976 (by decide) rfl ?_
      refine ev_iadd zo_213_977 rfl ?_
      obtain ⟨c258, h⟩ := zz_chk h
      refine ev_iald zo_213_978 c3 c258 rfl ?_
      refine ev_aload_n zo_213_979 rfl rfl rfl rfl ?_
      refine ev_iload_n zo_213_980 rfl rfl rfl ?_
      refine ev_iconst (x := 4) zo_213_981 (by decide) rfl ?_
      refine ev_iadd zo_213_982 rfl ?_
      obtain ⟨c259, h⟩ := zz_chk h
      refine ev_iald zo_213_983 c3 c259 rfl ?_
      obtain ⟨c260, h⟩ := zz_chk h
      obtain ⟨q261, hq261, h⟩ := zz_bd h
      refine ev_cV (as := [.int (q255.2.2 l0 (l3 + (4 : Int32)).toNatClampNeg), .int (q255.2.2 l0 (l3 + (3 : Int32)).toNatClampNeg), .int (q255.2.2 l0 (l3 + (2 : Int32)).toNatClampNeg), .int (q255.2.2 l0 (l3 + (1 : Int32)).toNatClampNeg)]) (lsn := [.ref l2, .int (q255.2.2 l0 (l3 + (1 : Int32)).toNatClampNeg), .int (q255.2.2 l0 (l3 + (2 : Int32)).toNatClampNeg), .int (q255.2.2 l0 (l3 + (3 : Int32)).toNatClampNeg), .int (q255.2.2 l0 (l3 + (4 : Int32)).toNatClampNeg), zzU, zzU, zzU]) (by omega) zo_213_984 zl_213_127 (by rw [zm_210]; rfl) (by rw [zm_210]; exact c260) (by rw [zm_210]; decide) (by unfold zzIn; rw [zm_210]; rfl) (by rw [zm_210]; exact Nat.le_of_ble_eq_true rfl) (Nat.le_of_ble_eq_true rfl) (G_X7_passengers (by omega) l2 (q255.2.2 l0 (l3 + (1 : Int32)).toNatClampNeg) (q255.2.2 l0 (l3 + (2 : Int32)).toNatClampNeg) (q255.2.2 l0 (l3 + (3 : Int32)).toNatClampNeg) (q255.2.2 l0 (l3 + (4 : Int32)).toNatClampNeg) q255.2 q261 hq261) rfl ?_
      show zzEv _ _ _ _ [.int q261.1, .int q255.1] _ _
      by_cases c262 : q255.1 = q261.1
      · rw [if_pos c262] at h
        refine ev_cmp_t (t := 1025) zo_213_987 rfl (zcm_eq c262) ?_
        refine ev_iinc (v := 6) zo_213_1025 rfl (by decide) (zz_set rfl (by decide) (Nat.le_of_ble_eq_true rfl)) rfl ?_
        show zzEv _ _ _ [.ref l0, .ref l1, .ref l2, .int (l3 + 6)] _ _ _
        refine ev_goto (t := 18) zo_213_1028 rfl ?_
        exact ih l0 l1 l2 (l3 + 6) q261.2 r h
      rw [if_neg c262] at h
      refine ev_cmp_f (t := 1025) zo_213_987 rfl (zcm_neq c262) rfl ?_
      refine ev_iconst (x := 0) zo_213_990 (by decide) rfl ?_
      cases h
      exact ev_retZ zo_213_991 zr_213 (Or.inl rfl)
    rw [if_neg s249] at h
    by_cases s263 : ((J.2 l0 l3.toNatClampNeg) &&& (31 : Int32)) = 27
    · rw [if_pos s263] at h
      refine ev_tableIn (t := 992) zo_213_33 s263 rfl ?_
      refine ev_aload_n zo_213_992 rfl rfl rfl rfl ?_
      refine ev_aload_n zo_213_993 rfl rfl rfl rfl ?_
      refine ev_iload_n zo_213_994 rfl rfl rfl ?_
      refine ev_iconst (x := 1) zo_213_995 (by decide) rfl ?_
      refine ev_iadd zo_213_996 rfl ?_
      obtain ⟨c264, h⟩ := zz_chk h
      refine ev_iald zo_213_997 c3 c264 rfl ?_
      refine ev_aload_n zo_213_998 rfl rfl rfl rfl ?_
      refine ev_iload_n zo_213_999 rfl rfl rfl ?_
      refine ev_iconst (x := 2) zo_213_1000 (by decide) rfl ?_
      refine ev_iadd zo_213_1001 rfl ?_
      obtain ⟨c265, h⟩ := zz_chk h
      refine ev_iald zo_213_1002 c3 c265 rfl ?_
      obtain ⟨c266, h⟩ := zz_chk h
      obtain ⟨q267, hq267, h⟩ := zz_bd h
      refine ev_cV (as := [.int (J.2 l0 (l3 + (2 : Int32)).toNatClampNeg), .int (J.2 l0 (l3 + (1 : Int32)).toNatClampNeg)]) (lsn := [.ref l1, .int (J.2 l0 (l3 + (1 : Int32)).toNatClampNeg), .int (J.2 l0 (l3 + (2 : Int32)).toNatClampNeg)]) (by omega) zo_213_1003 zl_213_128 (by rw [zm_121]; rfl) (by rw [zm_121]; exact c266) (by rw [zm_121]; decide) (by unfold zzIn; rw [zm_121]; rfl) (by rw [zm_121]; exact Nat.le_of_ble_eq_true rfl) (Nat.le_of_ble_eq_true rfl) (G_X6_taken (by omega) l1 (J.2 l0 (l3 + (1 : Int32)).toNatClampNeg) (J.2 l0 (l3 + (2 : Int32)).toNatClampNeg) J q267 hq267) rfl ?_
      show zzEv _ _ _ _ [.int q267.1] _ _
      refine ev_aload_n zo_213_1006 rfl rfl rfl rfl ?_
      refine ev_aload_n zo_213_1007 rfl rfl rfl rfl ?_
      refine ev_iload_n zo_213_1008 rfl rfl rfl ?_
      refine ev_iconst (x := 1) zo_213_1009 (by decide) rfl ?_
      refine ev_iadd zo_213_1010 rfl ?_
      obtain ⟨c268, h⟩ := zz_chk h
      refine ev_iald zo_213_1011 c3 c268 rfl ?_
      refine ev_aload_n zo_213_1012 rfl rfl rfl rfl ?_
      refine ev_iload_n zo_213_1013 rfl rfl rfl ?_
      refine ev_iconst (x := 2) zo_213_1014 (by decide) rfl ?_
      refine ev_iadd zo_213_1015 rfl ?_
      obtain ⟨c269, h⟩ := zz_chk h
      refine ev_iald zo_213_1016 c3 c269 rfl ?_
      obtain ⟨c270, h⟩ := zz_chk h
      obtain ⟨q271, hq271, h⟩ := zz_bd h
      refine ev_cV (as := [.int (q267.2.2 l0 (l3 + (2 : Int32)).toNatClampNeg), .int (q267.2.2 l0 (l3 + (1 : Int32)).toNatClampNeg)]) (lsn := [.ref l2, .int (q267.2.2 l0 (l3 + (1 : Int32)).toNatClampNeg), .int (q267.2.2 l0 (l3 + (2 : Int32)).toNatClampNeg), zzU]) (by omega) zo_213_1017 zl_213_131 (by rw [zm_212]; rfl) (by rw [zm_212]; exact c270) (by rw [zm_212]; decide) (by unfold zzIn; rw [zm_212]; rfl) (by rw [zm_212]; exact Nat.le_of_ble_eq_true rfl) (Nat.le_of_ble_eq_true rfl) (G_X7_taken (by omega) l2 (q267.2.2 l0 (l3 + (1 : Int32)).toNatClampNeg) (q267.2.2 l0 (l3 + (2 : Int32)).toNatClampNeg) q267.2 q271 hq271) rfl ?_
      show zzEv _ _ _ _ [.int q271.1, .int q267.1] _ _
      by_cases c272 : q267.1 = q271.1
      · rw [if_pos c272] at h
        refine ev_cmp_t (t := 1025) zo_213_1020 rfl (zcm_eq c272) ?_
        refine ev_iinc (v := 6) zo_213_1025 rfl (by decide) (zz_set rfl (by decide) (Nat.le_of_ble_eq_true rfl)) rfl ?_
        show zzEv _ _ _ [.ref l0, .ref l1, .ref l2, .int (l3 + 6)] _ _ _
        refine ev_goto (t := 18) zo_213_1028 rfl ?_
        exact ih l0 l1 l2 (l3 + 6) q271.2 r h
      rw [if_neg c272] at h
      refine ev_cmp_f (t := 1025) zo_213_1020 rfl (zcm_neq c272) rfl ?_
      refine ev_iconst (x := 0) zo_213_1023 (by decide) rfl ?_
      cases h
      exact ev_retZ zo_213_1024 zr_213 (Or.inl rfl)
    rw [if_neg s263] at h
    refine ev_tableOut (t := 1025) zo_213_33 (sw_out 28 rfl fun k hk => ?_) rfl ?_
    · match k, hk with
      | 0, _ => exact sw_ne s5 (by decide)
      | 1, _ => exact sw_ne s17 (by decide)
      | 2, _ => exact sw_ne s27 (by decide)
      | 3, _ => exact sw_ne s37 (by decide)
      | 4, _ => exact sw_ne s47 (by decide)
      | 5, _ => exact sw_ne s55 (by decide)
      | 6, _ => exact sw_ne s63 (by decide)
      | 7, _ => exact sw_ne s69 (by decide)
      | 8, _ => exact sw_ne s77 (by decide)
      | 9, _ => exact sw_ne s85 (by decide)
      | 10, _ => exact sw_ne s95 (by decide)
      | 11, _ => exact sw_ne s105 (by decide)
      | 12, _ => exact sw_ne s113 (by decide)
      | 13, _ => exact sw_ne s121 (by decide)
      | 14, _ => exact sw_ne s131 (by decide)
      | 15, _ => exact sw_ne s141 (by decide)
      | 16, _ => exact sw_ne s151 (by decide)
      | 17, _ => exact sw_ne s161 (by decide)
      | 18, _ => exact sw_ne s169 (by decide)
      | 19, _ => exact sw_ne s177 (by decide)
      | 20, _ => exact sw_ne s189 (by decide)
      | 21, _ => exact sw_ne s195 (by decide)
      | 22, _ => exact sw_ne s201 (by decide)
      | 23, _ => exact sw_ne s209 (by decide)
      | 24, _ => exact sw_ne s221 (by decide)
      | 25, _ => exact sw_ne s233 (by decide)
      | 26, _ => exact sw_ne s249 (by decide)
      | 27, _ => exact sw_ne s263 (by decide)
    refine ev_iinc (v := 6) zo_213_1025 rfl (by decide) (zz_set rfl (by decide) (Nat.le_of_ble_eq_true rfl)) rfl ?_
    show zzEv _ _ _ [.ref l0, .ref l1, .ref l2, .int (l3 + 6)] _ _ _
    refine ev_goto (t := 18) zo_213_1028 rfl ?_
    exact ih l0 l1 l2 (l3 + 6) J r h
