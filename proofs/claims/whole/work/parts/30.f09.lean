/-! the methods as functions, and that they are (written by wip/whole/gen2.py) -/
/-! X7_passenger -/
def F_X7_passenger (x1 : Int32) (x2 : Int32) (J : zzJ) : Option (Int32 × zzJ) := (Option.bind (F_X7_in x1.toInt64 (0 : Int64) (5 : Int64) J) fun q1 => (if q1.1 = (0 : Int32) then some ((-2 : Int32), q1.2) else (Option.bind (F_X7_in x2.toInt64 (0 : Int64) (9 : Int64) q1.2) fun q3 => (if q3.1 = (0 : Int32) then some ((-2 : Int32), q3.2) else (if (q3.2.2 46 14) = (8 : Int32) then some ((-4 : Int32), q3.2) else (if zzIx (q3.2.2 46 14) 8 then (if zzIx ((wI q3.2 50 (q3.2.2 46 14).toNatClampNeg x1).2 46 14) 8 then (if zzIx ((wI (wI q3.2 50 (q3.2.2 46 14).toNatClampNeg x1) 51 ((wI q3.2 50 (q3.2.2 46 14).toNatClampNeg x1).2 46 14).toNatClampNeg x2).2 46 14) 8 then (if zzIx ((wI (wI (wI q3.2 50 (q3.2.2 46 14).toNatClampNeg x1) 51 ((wI q3.2 50 (q3.2.2 46 14).toNatClampNeg x1).2 46 14).toNatClampNeg x2) 52 ((wI (wI q3.2 50 (q3.2.2 46 14).toNatClampNeg x1) 51 ((wI q3.2 50 (q3.2.2 46 14).toNatClampNeg x1).2 46 14).toNatClampNeg x2).2 46 14).toNatClampNeg (-1 : Int32)).2 46 14) 8 then some ((((wI (wI (wI (wI (wI q3.2 50 (q3.2.2 46 14).toNatClampNeg x1) 51 ((wI q3.2 50 (q3.2.2 46 14).toNatClampNeg x1).2 46 14).toNatClampNeg x2) 52 ((wI (wI q3.2 50 (q3.2.2 46 14).toNatClampNeg x1) 51 ((wI q3.2 50 (q3.2.2 46 14).toNatClampNeg x1).2 46 14).toNatClampNeg x2).2 46 14).toNatClampNeg (-1 : Int32)) 53 ((wI (wI (wI q3.2 50 (q3.2.2 46 14).toNatClampNeg x1) 51 ((wI q3.2 50 (q3.2.2 46 14).toNatClampNeg x1).2 46 14).toNatClampNeg x2) 52 ((wI (wI q3.2 50 (q3.2.2 46 14).toNatClampNeg x1) 51 ((wI q3.2 50 (q3.2.2 46 14).toNatClampNeg x1).2 46 14).toNatClampNeg x2).2 46 14).toNatClampNeg (-1 : Int32)).2 46 14).toNatClampNeg (-1 : Int32)) 46 14 (((wI (wI (wI (wI q3.2 50 (q3.2.2 46 14).toNatClampNeg x1) 51 ((wI q3.2 50 (q3.2.2 46 14).toNatClampNeg x1).2 46 14).toNatClampNeg x2) 52 ((wI (wI q3.2 50 (q3.2.2 46 14).toNatClampNeg x1) 51 ((wI q3.2 50 (q3.2.2 46 14).toNatClampNeg x1).2 46 14).toNatClampNeg x2).2 46 14).toNatClampNeg (-1 : Int32)) 53 ((wI (wI (wI q3.2 50 (q3.2.2 46 14).toNatClampNeg x1) 51 ((wI q3.2 50 (q3.2.2 46 14).toNatClampNeg x1).2 46 14).toNatClampNeg x2) 52 ((wI (wI q3.2 50 (q3.2.2 46 14).toNatClampNeg x1) 51 ((wI q3.2 50 (q3.2.2 46 14).toNatClampNeg x1).2 46 14).toNatClampNeg x2).2 46 14).toNatClampNeg (-1 : Int32)).2 46 14).toNatClampNeg (-1 : Int32)).2 46 14) + (1 : Int32))).2 46 14) - (1 : Int32)), (wI (wI (wI (wI (wI q3.2 50 (q3.2.2 46 14).toNatClampNeg x1) 51 ((wI q3.2 50 (q3.2.2 46 14).toNatClampNeg x1).2 46 14).toNatClampNeg x2) 52 ((wI (wI q3.2 50 (q3.2.2 46 14).toNatClampNeg x1) 51 ((wI q3.2 50 (q3.2.2 46 14).toNatClampNeg x1).2 46 14).toNatClampNeg x2).2 46 14).toNatClampNeg (-1 : Int32)) 53 ((wI (wI (wI q3.2 50 (q3.2.2 46 14).toNatClampNeg x1) 51 ((wI q3.2 50 (q3.2.2 46 14).toNatClampNeg x1).2 46 14).toNatClampNeg x2) 52 ((wI (wI q3.2 50 (q3.2.2 46 14).toNatClampNeg x1) 51 ((wI q3.2 50 (q3.2.2 46 14).toNatClampNeg x1).2 46 14).toNatClampNeg x2).2 46 14).toNatClampNeg (-1 : Int32)).2 46 14).toNatClampNeg (-1 : Int32)) 46 14 (((wI (wI (wI (wI q3.2 50 (q3.2.2 46 14).toNatClampNeg x1) 51 ((wI q3.2 50 (q3.2.2 46 14).toNatClampNeg x1).2 46 14).toNatClampNeg x2) 52 ((wI (wI q3.2 50 (q3.2.2 46 14).toNatClampNeg x1) 51 ((wI q3.2 50 (q3.2.2 46 14).toNatClampNeg x1).2 46 14).toNatClampNeg x2).2 46 14).toNatClampNeg (-1 : Int32)) 53 ((wI (wI (wI q3.2 50 (q3.2.2 46 14).toNatClampNeg x1) 51 ((wI q3.2 50 (q3.2.2 46 14).toNatClampNeg x1).2 46 14).toNatClampNeg x2) 52 ((wI (wI q3.2 50 (q3.2.2 46 14).toNatClampNeg x1) 51 ((wI q3.2 50 (q3.2.2 46 14).toNatClampNeg x1).2 46 14).toNatClampNeg x2).2 46 14).toNatClampNeg (-1 : Int32)).2 46 14).toNatClampNeg (-1 : Int32)).2 46 14) + (1 : Int32)))) else none) else none) else none) else none))))))
set_option maxRecDepth 100000 in
set_option maxHeartbeats 2000000 in
theorem G_X7_passenger {d : Nat} (hd : 1 ≤ d) (x1 : Int32) (x2 : Int32) (J : zzJ) (r : Int32 × zzJ) (h : F_X7_passenger x1 x2 J = some r) : zzEv d 145 0 [.ref 46, .int x1, .int x2] [] (zK J) (some (.int r.1), zK r.2) := by
  unfold F_X7_passenger at h
  refine ev_iload_n zo_145_0 rfl rfl rfl ?_
  refine ev_i2l zo_145_1 rfl ?_
  refine ev_lconst (x := 0) zo_145_2 (by decide) rfl ?_
  refine ev_ldc2 zo_145_3 zc_145_124 rfl ?_
  obtain ⟨q1, hq1, h⟩ := zz_bd h
  refine ev_cS (as := [.long (5 : Int64), .long (0 : Int64), .long x1.toInt64]) (lsn := [.long x1.toInt64, zzU, .long (0 : Int64), zzU, .long (5 : Int64), zzU]) (by omega) zo_145_6 zl_145_88 (by decide) (by rw [zm_136]; rfl) (by unfold zzIn; rw [zm_136]; rfl) (by rw [zm_136]; exact Nat.le_of_ble_eq_true rfl) (Nat.le_of_ble_eq_true rfl) (G_X7_in (by omega) x1.toInt64 (0 : Int64) (5 : Int64) J q1 hq1) rfl ?_
  show zzEv _ _ _ _ [.int q1.1] _ _
  by_cases c2 : q1.1 = (0 : Int32)
  · rw [if_pos c2] at h
    refine ev_if_t (t := 24) zo_145_9 rfl (zcm_eq c2) ?_
    refine ev_bipush (x := (-2)) zo_145_24 (by decide) rfl ?_
    obtain rfl := Option.some.inj h
    exact ev_retI zo_145_26 zr_145
  rw [if_neg c2] at h
  refine ev_if_f (t := 24) zo_145_9 rfl (zcm_neq c2) rfl ?_
  refine ev_iload_n zo_145_12 rfl rfl rfl ?_
  refine ev_i2l zo_145_13 rfl ?_
  refine ev_lconst (x := 0) zo_145_14 (by decide) rfl ?_
  refine ev_ldc2 zo_145_15 zc_145_102 rfl ?_
  obtain ⟨q3, hq3, h⟩ := zz_bd h
  refine ev_cS (as := [.long (9 : Int64), .long (0 : Int64), .long x2.toInt64]) (lsn := [.long x2.toInt64, zzU, .long (0 : Int64), zzU, .long (9 : Int64), zzU]) (by omega) zo_145_18 zl_145_88 (by decide) (by rw [zm_136]; rfl) (by unfold zzIn; rw [zm_136]; rfl) (by rw [zm_136]; exact Nat.le_of_ble_eq_true rfl) (Nat.le_of_ble_eq_true rfl) (G_X7_in (by omega) x2.toInt64 (0 : Int64) (9 : Int64) q1.2 q3 hq3) rfl ?_
  show zzEv _ _ _ _ [.int q3.1] _ _
  by_cases c4 : q3.1 = (0 : Int32)
  · rw [if_pos c4] at h
    refine ev_if_f (t := 27) zo_145_21 rfl (zcm_nne c4) rfl ?_
    refine ev_bipush (x := (-2)) zo_145_24 (by decide) rfl ?_
    obtain rfl := Option.some.inj h
    exact ev_retI zo_145_26 zr_145
  rw [if_neg c4] at h
  refine ev_if_t (t := 27) zo_145_21 rfl (zcm_ne c4) ?_
  refine ev_aload_n zo_145_27 rfl rfl rfl rfl ?_
  refine ev_getI zo_145_28 zf_145_85 (by decide) (Or.inl rfl) rfl rfl ?_
  refine ev_bipush (x := 8) zo_145_31 (by decide) rfl ?_
  by_cases c5 : (q3.2.2 46 14) = (8 : Int32)
  · rw [if_pos c5] at h
    refine ev_cmp_f (t := 39) zo_145_33 rfl (zcm_nne c5) rfl ?_
    refine ev_bipush (x := (-4)) zo_145_36 (by decide) rfl ?_
    obtain rfl := Option.some.inj h
    exact ev_retI zo_145_38 zr_145
  rw [if_neg c5] at h
  refine ev_cmp_t (t := 39) zo_145_33 rfl (zcm_ne c5) ?_
  refine ev_aload_n zo_145_39 rfl rfl rfl rfl ?_
  refine ev_getR zo_145_40 zf_145_26 (by decide) rfl rfl rfl rfl ?_
  refine ev_aload_n zo_145_43 rfl rfl rfl rfl ?_
  refine ev_getI zo_145_44 zf_145_85 (by decide) (Or.inl rfl) rfl rfl ?_
  refine ev_iload_n zo_145_47 rfl rfl rfl ?_
  obtain ⟨c6, h⟩ := zz_chk h
  refine ev_iast zo_145_48 rfl c6 rfl ?_
  refine ev_aload_n zo_145_49 rfl rfl rfl rfl ?_
  refine ev_getR zo_145_50 zf_145_29 (by decide) rfl rfl rfl rfl ?_
  refine ev_aload_n zo_145_53 rfl rfl rfl rfl ?_
  refine ev_getI zo_145_54 zf_145_85 (by decide) (Or.inl rfl) rfl rfl ?_
  refine ev_iload_n zo_145_57 rfl rfl rfl ?_
  obtain ⟨c7, h⟩ := zz_chk h
  refine ev_iast zo_145_58 rfl c7 rfl ?_
  refine ev_aload_n zo_145_59 rfl rfl rfl rfl ?_
  refine ev_getR zo_145_60 zf_145_32 (by decide) rfl rfl rfl rfl ?_
  refine ev_aload_n zo_145_63 rfl rfl rfl rfl ?_
  refine ev_getI zo_145_64 zf_145_85 (by decide) (Or.inl rfl) rfl rfl ?_
  refine ev_iconst (x := (-1)) zo_145_67 (by decide) rfl ?_
  obtain ⟨c8, h⟩ := zz_chk h
  refine ev_iast zo_145_68 rfl c8 rfl ?_
  refine ev_aload_n zo_145_69 rfl rfl rfl rfl ?_
  refine ev_getR zo_145_70 zf_145_35 (by decide) rfl rfl rfl rfl ?_
  refine ev_aload_n zo_145_73 rfl rfl rfl rfl ?_
  refine ev_getI zo_145_74 zf_145_85 (by decide) (Or.inl rfl) rfl rfl ?_
  refine ev_iconst (x := (-1)) zo_145_77 (by decide) rfl ?_
  obtain ⟨c9, h⟩ := zz_chk h
  refine ev_iast zo_145_78 rfl c9 rfl ?_
  refine ev_aload_n zo_145_79 rfl rfl rfl rfl ?_
  refine ev_dup zo_145_80 rfl rfl ?_
  refine ev_getI zo_145_81 zf_145_85 (by decide) (Or.inl rfl) rfl rfl ?_
  refine ev_iconst (x := 1) zo_145_84 (by decide) rfl ?_
  refine ev_iadd zo_145_85 rfl ?_
  refine ev_putI zo_145_86 zf_145_85 (by decide) rfl rfl rfl rfl ?_
  refine ev_aload_n zo_145_89 rfl rfl rfl rfl ?_
  refine ev_getI zo_145_90 zf_145_85 (by decide) (Or.inl rfl) rfl rfl ?_
  refine ev_iconst (x := 1) zo_145_93 (by decide) rfl ?_
  refine ev_isub zo_145_94 rfl ?_
  obtain rfl := Option.some.inj h
  exact ev_retI zo_145_95 zr_145
/-! X7_seats -/
def F_X7_seats_22 (l1 : Int32) (l2 : Int32) (J : zzJ) : Option (zzJ) := (if zzIx l1 8 then (if l2 = (-1 : Int32) then some (wI J 53 l1.toNatClampNeg l2) else (if zzIx l2 24 then some (wI (wI J 53 l1.toNatClampNeg l2) 54 l2.toNatClampNeg l1) else none)) else none)
set_option maxRecDepth 100000 in
set_option maxHeartbeats 2000000 in
theorem G_X7_seats_22 {d : Nat} (hd : 0 ≤ d) : ∀ (l1 : Int32) (l2 : Int32) (J : zzJ) (r : zzJ), F_X7_seats_22 l1 l2 J = some r → zzEv d 146 22 [.ref 46, .int l1, .int l2] [] (zK J) (none, zK r) := by
  intro l1 l2 J r h
  unfold F_X7_seats_22 at h
  refine ev_aload_n zo_146_22 rfl rfl rfl rfl ?_
  refine ev_getR zo_146_23 zf_146_35 (by decide) rfl rfl rfl rfl ?_
  refine ev_iload_n zo_146_26 rfl rfl rfl ?_
  refine ev_iload_n zo_146_27 rfl rfl rfl ?_
  obtain ⟨c1, h⟩ := zz_chk h
  refine ev_iast zo_146_28 rfl c1 rfl ?_
  refine ev_iload_n zo_146_29 rfl rfl rfl ?_
  refine ev_iconst (x := (-1)) zo_146_30 (by decide) rfl ?_
  by_cases c2 : l2 = (-1 : Int32)
  · rw [if_pos c2] at h
    refine ev_cmp_t (t := 41) zo_146_31 rfl (zcm_eq c2) ?_
    obtain rfl := Option.some.inj h
    exact ev_retV zo_146_41 zr_146
  rw [if_neg c2] at h
  refine ev_cmp_f (t := 41) zo_146_31 rfl (zcm_neq c2) rfl ?_
  refine ev_aload_n zo_146_34 rfl rfl rfl rfl ?_
  refine ev_getR zo_146_35 zf_146_38 (by decide) rfl rfl rfl rfl ?_
  refine ev_iload_n zo_146_38 rfl rfl rfl ?_
  refine ev_iload_n zo_146_39 rfl rfl rfl ?_
  obtain ⟨c3, h⟩ := zz_chk h
  refine ev_iast zo_146_40 rfl c3 rfl ?_
  obtain rfl := Option.some.inj h
  exact ev_retV zo_146_41 zr_146
def F_X7_seats (x1 : Int32) (x2 : Int32) (J : zzJ) : Option (zzJ) := (if zzIx x1 8 then (if (J.2 53 x1.toNatClampNeg) = (-1 : Int32) then F_X7_seats_22 x1 x2 J else (if zzIx x1 8 then (if zzIx (J.2 53 x1.toNatClampNeg) 24 then F_X7_seats_22 x1 x2 (wI J 54 (J.2 53 x1.toNatClampNeg).toNatClampNeg (-1 : Int32)) else none) else none)) else none)
set_option maxRecDepth 100000 in
set_option maxHeartbeats 2000000 in
theorem G_X7_seats {d : Nat} (hd : 0 ≤ d) (x1 : Int32) (x2 : Int32) (J : zzJ) (r : zzJ) (h : F_X7_seats x1 x2 J = some r) : zzEv d 146 0 [.ref 46, .int x1, .int x2] [] (zK J) (none, zK r) := by
  unfold F_X7_seats at h
  refine ev_aload_n zo_146_0 rfl rfl rfl rfl ?_
  refine ev_getR zo_146_1 zf_146_35 (by decide) rfl rfl rfl rfl ?_
  refine ev_iload_n zo_146_4 rfl rfl rfl ?_
  obtain ⟨c4, h⟩ := zz_chk h
  refine ev_iald zo_146_5 rfl c4 rfl ?_
  refine ev_iconst (x := (-1)) zo_146_6 (by decide) rfl ?_
  by_cases c5 : (J.2 53 x1.toNatClampNeg) = (-1 : Int32)
  · rw [if_pos c5] at h
    refine ev_cmp_t (t := 22) zo_146_7 rfl (zcm_eq c5) ?_
    exact G_X7_seats_22 hd x1 x2 J r h
  rw [if_neg c5] at h
  refine ev_cmp_f (t := 22) zo_146_7 rfl (zcm_neq c5) rfl ?_
  refine ev_aload_n zo_146_10 rfl rfl rfl rfl ?_
  refine ev_getR zo_146_11 zf_146_38 (by decide) rfl rfl rfl rfl ?_
  refine ev_aload_n zo_146_14 rfl rfl rfl rfl ?_
  refine ev_getR zo_146_15 zf_146_35 (by decide) rfl rfl rfl rfl ?_
  refine ev_iload_n zo_146_18 rfl rfl rfl ?_
  obtain ⟨c6, h⟩ := zz_chk h
  refine ev_iald zo_146_19 rfl c6 rfl ?_
  refine ev_iconst (x := (-1)) zo_146_20 (by decide) rfl ?_
  obtain ⟨c7, h⟩ := zz_chk h
  refine ev_iast zo_146_21 rfl c7 rfl ?_
  exact G_X7_seats_22 hd x1 x2 (wI J 54 (J.2 53 x1.toNatClampNeg).toNatClampNeg (-1 : Int32)) r h
/-! X7_sit -/
def F_X7_sit_51 (l1 : Int32) (l2 : Int32) (J : zzJ) : Option (Int32 × zzJ) := (if zzIx l1 8 then (Option.bind (F_X7_seats l1 l2 J) fun q2 => some ((J.2 53 l1.toNatClampNeg), q2)) else none)
set_option maxRecDepth 100000 in
set_option maxHeartbeats 2000000 in
theorem G_X7_sit_51 {d : Nat} (hd : 2 ≤ d) : ∀ (l1 : Int32) (l2 : Int32) (J : zzJ) (r : Int32 × zzJ), F_X7_sit_51 l1 l2 J = some r → zzEv d 147 51 [.ref 46, .int l1, .int l2, zzU] [] (zK J) (some (.int r.1), zK r.2) := by
  intro l1 l2 J r h
  unfold F_X7_sit_51 at h
  refine ev_aload_n zo_147_51 rfl rfl rfl rfl ?_
  refine ev_getR zo_147_52 zf_147_35 (by decide) rfl rfl rfl rfl ?_
  refine ev_iload_n zo_147_55 rfl rfl rfl ?_
  obtain ⟨c1, h⟩ := zz_chk h
  refine ev_iald zo_147_56 rfl c1 rfl ?_
  refine ev_istore_n zo_147_57 rfl (zz_set rfl (by decide) (Nat.le_of_ble_eq_true rfl)) rfl ?_
  show zzEv _ _ _ [.ref 46, .int l1, .int l2, .int (J.2 53 l1.toNatClampNeg)] _ _ _
  refine ev_aload_n zo_147_58 rfl rfl rfl rfl ?_
  refine ev_iload_n zo_147_59 rfl rfl rfl ?_
  refine ev_iload_n zo_147_60 rfl rfl rfl ?_
  obtain ⟨q2, hq2, h⟩ := zz_bd h
  refine ev_cV (as := [.int l2, .int l1]) (lsn := [.ref 46, .int l1, .int l2]) (by omega) zo_147_61 zl_147_129 (by rw [zm_146]; rfl) (by rw [zm_146]; exact rfl) (by rw [zm_146]; decide) (by unfold zzIn; rw [zm_146]; rfl) (by rw [zm_146]; exact Nat.le_of_ble_eq_true rfl) (Nat.le_of_ble_eq_true rfl) (G_X7_seats (by omega) l1 l2 J q2 hq2) rfl ?_
  show zzEv _ _ _ _ [] _ _
  refine ev_iload_n zo_147_64 rfl rfl rfl ?_
  obtain rfl := Option.some.inj h
  exact ev_retI zo_147_65 zr_147
def F_X7_sit_23 (l1 : Int32) (l2 : Int32) (J : zzJ) : Option (Int32 × zzJ) := (if l2 = (-1 : Int32) then F_X7_sit_51 l1 l2 J else (if zzIx l2 24 then (if (J.2 54 l2.toNatClampNeg) = (-1 : Int32) then F_X7_sit_51 l1 l2 J else (if zzIx l2 24 then (if (J.2 54 l2.toNatClampNeg) = l1 then F_X7_sit_51 l1 l2 J else some ((-3 : Int32), J)) else none)) else none))
set_option maxRecDepth 100000 in
set_option maxHeartbeats 2000000 in
theorem G_X7_sit_23 {d : Nat} (hd : 2 ≤ d) : ∀ (l1 : Int32) (l2 : Int32) (J : zzJ) (r : Int32 × zzJ), F_X7_sit_23 l1 l2 J = some r → zzEv d 147 23 [.ref 46, .int l1, .int l2, zzU] [] (zK J) (some (.int r.1), zK r.2) := by
  intro l1 l2 J r h
  unfold F_X7_sit_23 at h
  refine ev_iload_n zo_147_23 rfl rfl rfl ?_
  refine ev_iconst (x := (-1)) zo_147_24 (by decide) rfl ?_
  by_cases c3 : l2 = (-1 : Int32)
  · rw [if_pos c3] at h
    refine ev_cmp_t (t := 51) zo_147_25 rfl (zcm_eq c3) ?_
    exact G_X7_sit_51 hd l1 l2 J r h
  rw [if_neg c3] at h
  refine ev_cmp_f (t := 51) zo_147_25 rfl (zcm_neq c3) rfl ?_
  refine ev_aload_n zo_147_28 rfl rfl rfl rfl ?_
  refine ev_getR zo_147_29 zf_147_38 (by decide) rfl rfl rfl rfl ?_
  refine ev_iload_n zo_147_32 rfl rfl rfl ?_
  obtain ⟨c4, h⟩ := zz_chk h
  refine ev_iald zo_147_33 rfl c4 rfl ?_
  refine ev_iconst (x := (-1)) zo_147_34 (by decide) rfl ?_
  by_cases c5 : (J.2 54 l2.toNatClampNeg) = (-1 : Int32)
  · rw [if_pos c5] at h
    refine ev_cmp_t (t := 51) zo_147_35 rfl (zcm_eq c5) ?_
    exact G_X7_sit_51 hd l1 l2 J r h
  rw [if_neg c5] at h
  refine ev_cmp_f (t := 51) zo_147_35 rfl (zcm_neq c5) rfl ?_
  refine ev_aload_n zo_147_38 rfl rfl rfl rfl ?_
  refine ev_getR zo_147_39 zf_147_38 (by decide) rfl rfl rfl rfl ?_
  refine ev_iload_n zo_147_42 rfl rfl rfl ?_
  obtain ⟨c6, h⟩ := zz_chk h
  refine ev_iald zo_147_43 rfl c6 rfl ?_
  refine ev_iload_n zo_147_44 rfl rfl rfl ?_
  by_cases c7 : (J.2 54 l2.toNatClampNeg) = l1
  · rw [if_pos c7] at h
    refine ev_cmp_t (t := 51) zo_147_45 rfl (zcm_eq c7) ?_
    exact G_X7_sit_51 hd l1 l2 J r h
  rw [if_neg c7] at h
  refine ev_cmp_f (t := 51) zo_147_45 rfl (zcm_neq c7) rfl ?_
  refine ev_bipush (x := (-3)) zo_147_48 (by decide) rfl ?_
  obtain rfl := Option.some.inj h
  exact ev_retI zo_147_50 zr_147
def F_X7_sit (x1 : Int32) (x2 : Int32) (J : zzJ) : Option (Int32 × zzJ) := (Option.bind (F_X7_isOne x1 J) fun q8 => (if q8.1 = (0 : Int32) then some ((-2 : Int32), q8.2) else (if x2 = (-1 : Int32) then F_X7_sit_23 x1 x2 q8.2 else (Option.bind (F_X7_isSeat x2 q8.2) fun q11 => (if q11.1 = (0 : Int32) then some ((-2 : Int32), q11.2) else F_X7_sit_23 x1 x2 q11.2)))))
set_option maxRecDepth 100000 in
set_option maxHeartbeats 2000000 in
theorem G_X7_sit {d : Nat} (hd : 2 ≤ d) (x1 : Int32) (x2 : Int32) (J : zzJ) (r : Int32 × zzJ) (h : F_X7_sit x1 x2 J = some r) : zzEv d 147 0 [.ref 46, .int x1, .int x2, zzU] [] (zK J) (some (.int r.1), zK r.2) := by
  unfold F_X7_sit at h
  refine ev_aload_n zo_147_0 rfl rfl rfl rfl ?_
  refine ev_iload_n zo_147_1 rfl rfl rfl ?_
  obtain ⟨q8, hq8, h⟩ := zz_bd h
  refine ev_cV (as := [.int x1]) (lsn := [.ref 46, .int x1]) (by omega) zo_147_2 zl_147_94 (by rw [zm_140]; rfl) (by rw [zm_140]; exact rfl) (by rw [zm_140]; decide) (by unfold zzIn; rw [zm_140]; rfl) (by rw [zm_140]; exact Nat.le_of_ble_eq_true rfl) (Nat.le_of_ble_eq_true rfl) (G_X7_isOne (by omega) x1 J q8 hq8) rfl ?_
  show zzEv _ _ _ _ [.int q8.1] _ _
  by_cases c9 : q8.1 = (0 : Int32)
  · rw [if_pos c9] at h
    refine ev_if_t (t := 20) zo_147_5 rfl (zcm_eq c9) ?_
    refine ev_bipush (x := (-2)) zo_147_20 (by decide) rfl ?_
    obtain rfl := Option.some.inj h
    exact ev_retI zo_147_22 zr_147
  rw [if_neg c9] at h
  refine ev_if_f (t := 20) zo_147_5 rfl (zcm_neq c9) rfl ?_
  refine ev_iload_n zo_147_8 rfl rfl rfl ?_
  refine ev_iconst (x := (-1)) zo_147_9 (by decide) rfl ?_
  by_cases c10 : x2 = (-1 : Int32)
  · rw [if_pos c10] at h
    refine ev_cmp_t (t := 23) zo_147_10 rfl (zcm_eq c10) ?_
    exact G_X7_sit_23 hd x1 x2 q8.2 r h
  rw [if_neg c10] at h
  refine ev_cmp_f (t := 23) zo_147_10 rfl (zcm_neq c10) rfl ?_
  refine ev_iload_n zo_147_13 rfl rfl rfl ?_
  obtain ⟨q11, hq11, h⟩ := zz_bd h
  refine ev_cS (as := [.int x2]) (lsn := [.int x2]) (by omega) zo_147_14 zl_147_126 (by decide) (by rw [zm_141]; rfl) (by unfold zzIn; rw [zm_141]; rfl) (by rw [zm_141]; exact Nat.le_of_ble_eq_true rfl) (Nat.le_of_ble_eq_true rfl) (G_X7_isSeat (by omega) x2 q8.2 q11 hq11) rfl ?_
  show zzEv _ _ _ _ [.int q11.1] _ _
  by_cases c12 : q11.1 = (0 : Int32)
  · rw [if_pos c12] at h
    refine ev_if_f (t := 23) zo_147_17 rfl (zcm_nne c12) rfl ?_
    refine ev_bipush (x := (-2)) zo_147_20 (by decide) rfl ?_
    obtain rfl := Option.some.inj h
    exact ev_retI zo_147_22 zr_147
  rw [if_neg c12] at h
  refine ev_if_t (t := 23) zo_147_17 rfl (zcm_ne c12) ?_
  exact G_X7_sit_23 hd x1 x2 q11.2 r h
/-! X7_who -/
def F_X7_who (x1 : Int32) (J : zzJ) : Option (Int32 × zzJ) := (Option.bind (F_X7_isSeat x1 J) fun q1 => (if q1.1 = (0 : Int32) then some ((-2 : Int32), q1.2) else (if zzIx x1 24 then some ((q1.2.2 54 x1.toNatClampNeg), q1.2) else none)))
set_option maxRecDepth 100000 in
set_option maxHeartbeats 2000000 in
theorem G_X7_who {d : Nat} (hd : 2 ≤ d) (x1 : Int32) (J : zzJ) (r : Int32 × zzJ) (h : F_X7_who x1 J = some r) : zzEv d 149 0 [.ref 46, .int x1] [] (zK J) (some (.int r.1), zK r.2) := by
  unfold F_X7_who at h
  refine ev_iload_n zo_149_0 rfl rfl rfl ?_
  obtain ⟨q1, hq1, h⟩ := zz_bd h
  refine ev_cS (as := [.int x1]) (lsn := [.int x1]) (by omega) zo_149_1 zl_149_126 (by decide) (by rw [zm_141]; rfl) (by unfold zzIn; rw [zm_141]; rfl) (by rw [zm_141]; exact Nat.le_of_ble_eq_true rfl) (Nat.le_of_ble_eq_true rfl) (G_X7_isSeat (by omega) x1 J q1 hq1) rfl ?_
  show zzEv _ _ _ _ [.int q1.1] _ _
  by_cases c2 : q1.1 = (0 : Int32)
  · rw [if_pos c2] at h
    refine ev_if_t (t := 16) zo_149_4 rfl (zcm_eq c2) ?_
    refine ev_bipush (x := (-2)) zo_149_16 (by decide) rfl ?_
    obtain rfl := Option.some.inj h
    exact ev_retI zo_149_18 zr_149
  rw [if_neg c2] at h
  refine ev_if_f (t := 16) zo_149_4 rfl (zcm_neq c2) rfl ?_
  refine ev_aload_n zo_149_7 rfl rfl rfl rfl ?_
  refine ev_getR zo_149_8 zf_149_38 (by decide) rfl rfl rfl rfl ?_
  refine ev_iload_n zo_149_11 rfl rfl rfl ?_
  obtain ⟨c3, h⟩ := zz_chk h
  refine ev_iald zo_149_12 rfl c3 rfl ?_
  refine ev_goto (t := 18) zo_149_13 rfl ?_
  obtain rfl := Option.some.inj h
  exact ev_retI zo_149_18 zr_149
/-! X7_feed -/
def F_X7_feed (x1 : Int32) (J : zzJ) : Option (Int32 × zzJ) := (Option.bind (F_X7_in x1.toInt64 (0 : Int64) (255 : Int64) J) fun q1 => (if q1.1 = (0 : Int32) then some ((-2 : Int32), q1.2) else (if (q1.2.2 46 6) = (160 : Int32) then some ((-4 : Int32), q1.2) else (if zzIx (q1.2.2 46 6) 160 then some (((wI (wI q1.2 49 (q1.2.2 46 6).toNatClampNeg x1) 46 6 (((wI q1.2 49 (q1.2.2 46 6).toNatClampNeg x1).2 46 6) + (1 : Int32))).2 46 6), (wI (wI q1.2 49 (q1.2.2 46 6).toNatClampNeg x1) 46 6 (((wI q1.2 49 (q1.2.2 46 6).toNatClampNeg x1).2 46 6) + (1 : Int32)))) else none))))
set_option maxRecDepth 100000 in
set_option maxHeartbeats 2000000 in
theorem G_X7_feed {d : Nat} (hd : 1 ≤ d) (x1 : Int32) (J : zzJ) (r : Int32 × zzJ) (h : F_X7_feed x1 J = some r) : zzEv d 150 0 [.ref 46, .int x1] [] (zK J) (some (.int r.1), zK r.2) := by
  unfold F_X7_feed at h
  refine ev_iload_n zo_150_0 rfl rfl rfl ?_
  refine ev_i2l zo_150_1 rfl ?_
  refine ev_lconst (x := 0) zo_150_2 (by decide) rfl ?_
  refine ev_ldc2 zo_150_3 zc_150_146 rfl ?_
  obtain ⟨q1, hq1, h⟩ := zz_bd h
  refine ev_cS (as := [.long (255 : Int64), .long (0 : Int64), .long x1.toInt64]) (lsn := [.long x1.toInt64, zzU, .long (0 : Int64), zzU, .long (255 : Int64), zzU]) (by omega) zo_150_6 zl_150_88 (by decide) (by rw [zm_136]; rfl) (by unfold zzIn; rw [zm_136]; rfl) (by rw [zm_136]; exact Nat.le_of_ble_eq_true rfl) (Nat.le_of_ble_eq_true rfl) (G_X7_in (by omega) x1.toInt64 (0 : Int64) (255 : Int64) J q1 hq1) rfl ?_
  show zzEv _ _ _ _ [.int q1.1] _ _
  by_cases c2 : q1.1 = (0 : Int32)
  · rw [if_pos c2] at h
    refine ev_if_f (t := 15) zo_150_9 rfl (zcm_nne c2) rfl ?_
    refine ev_bipush (x := (-2)) zo_150_12 (by decide) rfl ?_
    obtain rfl := Option.some.inj h
    exact ev_retI zo_150_14 zr_150
  rw [if_neg c2] at h
  refine ev_if_t (t := 15) zo_150_9 rfl (zcm_ne c2) ?_
  refine ev_aload_n zo_150_15 rfl rfl rfl rfl ?_
  refine ev_getI zo_150_16 zf_150_148 (by decide) (Or.inl rfl) rfl rfl ?_
  refine ev_sipush (x := 160) zo_150_19 (by decide) rfl ?_
  by_cases c3 : (q1.2.2 46 6) = (160 : Int32)
  · rw [if_pos c3] at h
    refine ev_cmp_f (t := 28) zo_150_22 rfl (zcm_nne c3) rfl ?_
    refine ev_bipush (x := (-4)) zo_150_25 (by decide) rfl ?_
    obtain rfl := Option.some.inj h
    exact ev_retI zo_150_27 zr_150
  rw [if_neg c3] at h
  refine ev_cmp_t (t := 28) zo_150_22 rfl (zcm_ne c3) ?_
  refine ev_aload_n zo_150_28 rfl rfl rfl rfl ?_
  refine ev_getR zo_150_29 zf_150_20 (by decide) rfl rfl rfl rfl ?_
  refine ev_aload_n zo_150_32 rfl rfl rfl rfl ?_
  refine ev_getI zo_150_33 zf_150_148 (by decide) (Or.inl rfl) rfl rfl ?_
  refine ev_iload_n zo_150_36 rfl rfl rfl ?_
  obtain ⟨c4, h⟩ := zz_chk h
  refine ev_iast zo_150_37 rfl c4 rfl ?_
  refine ev_aload_n zo_150_38 rfl rfl rfl rfl ?_
  refine ev_dup zo_150_39 rfl rfl ?_
  refine ev_getI zo_150_40 zf_150_148 (by decide) (Or.inl rfl) rfl rfl ?_
  refine ev_iconst (x := 1) zo_150_43 (by decide) rfl ?_
  refine ev_iadd zo_150_44 rfl ?_
  refine ev_putI zo_150_45 zf_150_148 (by decide) rfl rfl rfl rfl ?_
  refine ev_aload_n zo_150_48 rfl rfl rfl rfl ?_
  refine ev_getI zo_150_49 zf_150_148 (by decide) (Or.inl rfl) rfl rfl ?_
  obtain rfl := Option.some.inj h
  exact ev_retI zo_150_52 zr_150
/-! X7_text -/
def F_X7_text_14 : Nat → Int32 → zzJ → Option (Int32 × zzJ)
  | 0, _, _ => none
  | n + 1, l1, J => (if l1 < (J.2 46 6) then (if zzIx l1 160 then (if zzIx (((160 : Int32) * (J.2 46 3)) + l1) 960 then F_X7_text_14 n (l1 + 1) (wI J 47 (((160 : Int32) * (J.2 46 3)) + l1).toNatClampNeg (J.2 49 l1.toNatClampNeg)) else none) else none) else (if zzIx (J.2 46 3) 6 then (Option.bind (F_X7_read ((wI (wI J 48 (J.2 46 3).toNatClampNeg (J.2 46 6)) 46 6 (0 : Int32)).2 46 3) (0 : Int32) (wI (wI J 48 (J.2 46 3).toNatClampNeg (J.2 46 6)) 46 6 (0 : Int32))) fun q3 => (if (q3.2.2 46 28) = (0 : Int32) then some ((((wI q3.2 46 3 ((q3.2.2 46 3) + (1 : Int32))).2 46 3) - (1 : Int32)), (wI q3.2 46 3 ((q3.2.2 46 3) + (1 : Int32)))) else some (((-100 : Int32) - (q3.2.2 46 29)), q3.2))) else none))
set_option maxRecDepth 100000 in
set_option maxHeartbeats 2000000 in
theorem G_X7_text_14 {d : Nat} (hd : 92 ≤ d) : ∀ (n : Nat) (l1 : Int32) (J : zzJ) (r : Int32 × zzJ), F_X7_text_14 n l1 J = some r → zzEv d 167 14 [.ref 46, .int l1] [] (zK J) (some (.int r.1), zK r.2) := by
  intro n
  induction n with
  | zero => intro l1 J r h; simp [F_X7_text_14] at h
  | succ n ih =>
    intro l1 J r h
    rw [F_X7_text_14] at h
    refine ev_iload_n zo_167_14 rfl rfl rfl ?_
    refine ev_aload_n zo_167_15 rfl rfl rfl rfl ?_
    refine ev_getI zo_167_16 zf_167_148 (by decide) (Or.inl rfl) rfl rfl ?_
    by_cases c1 : l1 < (J.2 46 6)
    · rw [if_pos c1] at h
      refine ev_cmp_f (t := 49) zo_167_19 rfl (zcm_nge c1) rfl ?_
      refine ev_aload_n zo_167_22 rfl rfl rfl rfl ?_
      refine ev_getR zo_167_23 zf_167_13 (by decide) rfl rfl rfl rfl ?_
      refine ev_sipush (x := 160) zo_167_26 (by decide) rfl ?_
      refine ev_aload_n zo_167_29 rfl rfl rfl rfl ?_
      refine ev_getI zo_167_30 zf_167_82 (by decide) (Or.inl rfl) rfl rfl ?_
      refine ev_imul zo_167_33 rfl ?_
      refine ev_iload_n zo_167_34 rfl rfl rfl ?_
      refine ev_iadd zo_167_35 rfl ?_
      refine ev_aload_n zo_167_36 rfl rfl rfl rfl ?_
      refine ev_getR zo_167_37 zf_167_20 (by decide) rfl rfl rfl rfl ?_
      refine ev_iload_n zo_167_40 rfl rfl rfl ?_
      obtain ⟨c5, h⟩ := zz_chk h
      refine ev_iald zo_167_41 rfl c5 rfl ?_
      obtain ⟨c6, h⟩ := zz_chk h
      refine ev_iast zo_167_42 rfl c6 rfl ?_
      refine ev_iinc (v := 1) zo_167_43 rfl (by decide) (zz_set rfl (by decide) (Nat.le_of_ble_eq_true rfl)) rfl ?_
      show zzEv _ _ _ [.ref 46, .int (l1 + 1)] _ _ _
      refine ev_goto (t := 14) zo_167_46 rfl ?_
      exact ih (l1 + 1) (wI J 47 (((160 : Int32) * (J.2 46 3)) + l1).toNatClampNeg (J.2 49 l1.toNatClampNeg)) r h
    rw [if_neg c1] at h
    refine ev_cmp_t (t := 49) zo_167_19 rfl (zcm_ge c1) ?_
    refine ev_aload_n zo_167_49 rfl rfl rfl rfl ?_
    refine ev_getR zo_167_50 zf_167_17 (by decide) rfl rfl rfl rfl ?_
    refine ev_aload_n zo_167_53 rfl rfl rfl rfl ?_
    refine ev_getI zo_167_54 zf_167_82 (by decide) (Or.inl rfl) rfl rfl ?_
    refine ev_aload_n zo_167_57 rfl rfl rfl rfl ?_
    refine ev_getI zo_167_58 zf_167_148 (by decide) (Or.inl rfl) rfl rfl ?_
    obtain ⟨c2, h⟩ := zz_chk h
    refine ev_iast zo_167_61 rfl c2 rfl ?_
    refine ev_aload_n zo_167_62 rfl rfl rfl rfl ?_
    refine ev_iconst (x := 0) zo_167_63 (by decide) rfl ?_
    refine ev_putI zo_167_64 zf_167_148 (by decide) rfl rfl rfl rfl ?_
    refine ev_aload_n zo_167_67 rfl rfl rfl rfl ?_
    refine ev_aload_n zo_167_68 rfl rfl rfl rfl ?_
    refine ev_getI zo_167_69 zf_167_82 (by decide) (Or.inl rfl) rfl rfl ?_
    refine ev_iconst (x := 0) zo_167_72 (by decide) rfl ?_
    obtain ⟨q3, hq3, h⟩ := zz_bd h
    refine ev_cV (as := [.int (0 : Int32), .int ((wI (wI J 48 (J.2 46 3).toNatClampNeg (J.2 46 6)) 46 6 (0 : Int32)).2 46 3)]) (lsn := [.ref 46, .int ((wI (wI J 48 (J.2 46 3).toNatClampNeg (J.2 46 6)) 46 6 (0 : Int32)).2 46 3), .int (0 : Int32), zzU, zzU, zzU]) (by omega) zo_167_73 zl_167_262 (by rw [zm_166]; rfl) (by rw [zm_166]; exact rfl) (by rw [zm_166]; decide) (by unfold zzIn; rw [zm_166]; rfl) (by rw [zm_166]; exact Nat.le_of_ble_eq_true rfl) (Nat.le_of_ble_eq_true rfl) (G_X7_read (by omega) ((wI (wI J 48 (J.2 46 3).toNatClampNeg (J.2 46 6)) 46 6 (0 : Int32)).2 46 3) (0 : Int32) (wI (wI J 48 (J.2 46 3).toNatClampNeg (J.2 46 6)) 46 6 (0 : Int32)) q3 hq3) rfl ?_
    show zzEv _ _ _ _ [.int q3.1] _ _
    refine ev_istore_n zo_167_76 rfl (zz_set rfl (by decide) (Nat.le_of_ble_eq_true rfl)) rfl ?_
    show zzEv _ _ _ [.ref 46, .int q3.1] _ _ _
    refine ev_aload_n zo_167_77 rfl rfl rfl rfl ?_
    refine ev_getI zo_167_78 zf_167_183 (by decide) (Or.inr rfl) rfl rfl ?_
    by_cases c4 : (q3.2.2 46 28) = (0 : Int32)
    · rw [if_pos c4] at h
      refine ev_if_t (t := 92) zo_167_81 rfl (zcm_eq c4) ?_
      refine ev_aload_n zo_167_92 rfl rfl rfl rfl ?_
      refine ev_dup zo_167_93 rfl rfl ?_
      refine ev_getI zo_167_94 zf_167_82 (by decide) (Or.inl rfl) rfl rfl ?_
      refine ev_iconst (x := 1) zo_167_97 (by decide) rfl ?_
      refine ev_iadd zo_167_98 rfl ?_
      refine ev_putI zo_167_99 zf_167_82 (by decide) rfl rfl rfl rfl ?_
      refine ev_aload_n zo_167_102 rfl rfl rfl rfl ?_
      refine ev_getI zo_167_103 zf_167_82 (by decide) (Or.inl rfl) rfl rfl ?_
      refine ev_iconst (x := 1) zo_167_106 (by decide) rfl ?_
      refine ev_isub zo_167_107 rfl ?_
      obtain rfl := Option.some.inj h
      exact ev_retI zo_167_108 zr_167
    rw [if_neg c4] at h
    refine ev_if_f (t := 92) zo_167_81 rfl (zcm_neq c4) rfl ?_
    refine ev_bipush (x := (-100)) zo_167_84 (by decide) rfl ?_
    refine ev_aload_n zo_167_86 rfl rfl rfl rfl ?_
    refine ev_getI zo_167_87 zf_167_187 (by decide) (Or.inl rfl) rfl rfl ?_
    refine ev_isub zo_167_90 rfl ?_
    obtain rfl := Option.some.inj h
    exact ev_retI zo_167_91 zr_167
def F_X7_text (J : zzJ) : Option (Int32 × zzJ) := (if (J.2 46 3) = (6 : Int32) then some ((-4 : Int32), J) else F_X7_text_14 4096 (0 : Int32) J)
set_option maxRecDepth 100000 in
set_option maxHeartbeats 2000000 in
theorem G_X7_text {d : Nat} (hd : 92 ≤ d) (J : zzJ) (r : Int32 × zzJ) (h : F_X7_text J = some r) : zzEv d 167 0 [.ref 46, zzU] [] (zK J) (some (.int r.1), zK r.2) := by
  unfold F_X7_text at h
  refine ev_aload_n zo_167_0 rfl rfl rfl rfl ?_
  refine ev_getI zo_167_1 zf_167_82 (by decide) (Or.inl rfl) rfl rfl ?_
  refine ev_bipush (x := 6) zo_167_4 (by decide) rfl ?_
  by_cases c7 : (J.2 46 3) = (6 : Int32)
  · rw [if_pos c7] at h
    refine ev_cmp_f (t := 12) zo_167_6 rfl (zcm_nne c7) rfl ?_
    refine ev_bipush (x := (-4)) zo_167_9 (by decide) rfl ?_
    obtain rfl := Option.some.inj h
    exact ev_retI zo_167_11 zr_167
  rw [if_neg c7] at h
  refine ev_cmp_t (t := 12) zo_167_6 rfl (zcm_ne c7) ?_
  refine ev_iconst (x := 0) zo_167_12 (by decide) rfl ?_
  refine ev_istore_n zo_167_13 rfl (zz_set rfl (by decide) (Nat.le_of_ble_eq_true rfl)) rfl ?_
  show zzEv _ _ _ [.ref 46, .int (0 : Int32)] _ _ _
  exact G_X7_text_14 hd 4096 (0 : Int32) J r h
/-! X7_force -/
def F_X7_force (x1 : Int32) (J : zzJ) : Option (Int32 × zzJ) := (Option.bind (F_X7_in x1.toInt64 (0 : Int64) ((J.2 46 3) - (1 : Int32)).toInt64 J) fun q1 => (if q1.1 = (0 : Int32) then some ((-2 : Int32), q1.2) else some ((q1.2.2 46 4), (wI q1.2 46 4 x1))))
set_option maxRecDepth 100000 in
set_option maxHeartbeats 2000000 in
theorem G_X7_force {d : Nat} (hd : 1 ≤ d) (x1 : Int32) (J : zzJ) (r : Int32 × zzJ) (h : F_X7_force x1 J = some r) : zzEv d 168 0 [.ref 46, .int x1, zzU] [] (zK J) (some (.int r.1), zK r.2) := by
  unfold F_X7_force at h
  refine ev_iload_n zo_168_0 rfl rfl rfl ?_
  refine ev_i2l zo_168_1 rfl ?_
  refine ev_lconst (x := 0) zo_168_2 (by decide) rfl ?_
  refine ev_aload_n zo_168_3 rfl rfl rfl rfl ?_
  refine ev_getI zo_168_4 zf_168_82 (by decide) (Or.inl rfl) rfl rfl ?_
  refine ev_iconst (x := 1) zo_168_7 (by decide) rfl ?_
  refine ev_isub zo_168_8 rfl ?_
  refine ev_i2l zo_168_9 rfl ?_
  obtain ⟨q1, hq1, h⟩ := zz_bd h
  refine ev_cS (as := [.long ((J.2 46 3) - (1 : Int32)).toInt64, .long (0 : Int64), .long x1.toInt64]) (lsn := [.long x1.toInt64, zzU, .long (0 : Int64), zzU, .long ((J.2 46 3) - (1 : Int32)).toInt64, zzU]) (by omega) zo_168_10 zl_168_88 (by decide) (by rw [zm_136]; rfl) (by unfold zzIn; rw [zm_136]; rfl) (by rw [zm_136]; exact Nat.le_of_ble_eq_true rfl) (Nat.le_of_ble_eq_true rfl) (G_X7_in (by omega) x1.toInt64 (0 : Int64) ((J.2 46 3) - (1 : Int32)).toInt64 J q1 hq1) rfl ?_
  show zzEv _ _ _ _ [.int q1.1] _ _
  by_cases c2 : q1.1 = (0 : Int32)
  · rw [if_pos c2] at h
    refine ev_if_f (t := 19) zo_168_13 rfl (zcm_nne c2) rfl ?_
    refine ev_bipush (x := (-2)) zo_168_16 (by decide) rfl ?_
    obtain rfl := Option.some.inj h
    exact ev_retI zo_168_18 zr_168
  rw [if_neg c2] at h
  refine ev_if_t (t := 19) zo_168_13 rfl (zcm_ne c2) ?_
  refine ev_aload_n zo_168_19 rfl rfl rfl rfl ?_
  refine ev_getI zo_168_20 zf_168_121 (by decide) (Or.inl rfl) rfl rfl ?_
  refine ev_istore_n zo_168_23 rfl (zz_set rfl (by decide) (Nat.le_of_ble_eq_true rfl)) rfl ?_
  show zzEv _ _ _ [.ref 46, .int x1, .int (q1.2.2 46 4)] _ _ _
  refine ev_aload_n zo_168_24 rfl rfl rfl rfl ?_
  refine ev_iload_n zo_168_25 rfl rfl rfl ?_
  refine ev_putI zo_168_26 zf_168_121 (by decide) rfl rfl rfl rfl ?_
  refine ev_iload_n zo_168_29 rfl rfl rfl ?_
  obtain rfl := Option.some.inj h
  exact ev_retI zo_168_30 zr_168
/-! X7_gladOf -/
def F_X7_gladOf_81 (l2 : Int32) (l3 : Int32) (l4 : Int32) (l5 : Int32) (t0 : Int32) (J : zzJ) : Option (Int32 × zzJ) := (if l2 = (5 : Int32) then some ((-l4), J) else (if l2 = (1 : Int32) then some (t0, J) else (if l2 = (3 : Int32) then some (((2 : Int32) * t0), J) else (if l2 = (2 : Int32) then some ((l5 - l3), J) else some (l5, J)))))
set_option maxRecDepth 100000 in
set_option maxHeartbeats 2000000 in
theorem G_X7_gladOf_81 {d : Nat} (hd : 93 ≤ d) : ∀ (l2 : Int32) (l3 : Int32) (l4 : Int32) (l5 : Int32) (t0 : Int32) (J : zzJ) (r : Int32 × zzJ), F_X7_gladOf_81 l2 l3 l4 l5 t0 J = some r → ∀ (lv1 : Value) (hlv1 : lv1.category = 1), zzEv d 177 81 [.ref 46, lv1, .int l2, .int l3, .int l4, .int l5, zzU] [.int t0] (zK J) (some (.int r.1), zK r.2) := by
  intro l2 l3 l4 l5 t0 J r h lv1 hlv1
  unfold F_X7_gladOf_81 at h
  refine ev_istore zo_177_81 (zz_set rfl (by decide) (Nat.le_of_ble_eq_true rfl)) rfl ?_
  show zzEv _ _ _ [.ref 46, lv1, .int l2, .int l3, .int l4, .int l5, .int t0] _ _ _
  refine ev_iload_n zo_177_83 rfl rfl rfl ?_
  refine ev_iconst (x := 5) zo_177_84 (by decide) rfl ?_
  by_cases c1 : l2 = (5 : Int32)
  · rw [if_pos c1] at h
    refine ev_cmp_f (t := 94) zo_177_85 rfl (zcm_nne c1) rfl ?_
    refine ev_iload zo_177_88 rfl rfl ?_
    refine ev_ineg zo_177_90 rfl ?_
    refine ev_goto (t := 130) zo_177_91 rfl ?_
    obtain rfl := Option.some.inj h
    exact ev_retI zo_177_130 zr_177
  rw [if_neg c1] at h
  refine ev_cmp_t (t := 94) zo_177_85 rfl (zcm_ne c1) ?_
  refine ev_iload_n zo_177_94 rfl rfl rfl ?_
  refine ev_iconst (x := 1) zo_177_95 (by decide) rfl ?_
  by_cases c2 : l2 = (1 : Int32)
  · rw [if_pos c2] at h
    refine ev_cmp_f (t := 104) zo_177_96 rfl (zcm_nne c2) rfl ?_
    refine ev_iload zo_177_99 rfl rfl ?_
    refine ev_goto (t := 130) zo_177_101 rfl ?_
    obtain rfl := Option.some.inj h
    exact ev_retI zo_177_130 zr_177
  rw [if_neg c2] at h
  refine ev_cmp_t (t := 104) zo_177_96 rfl (zcm_ne c2) ?_
  refine ev_iload_n zo_177_104 rfl rfl rfl ?_
  refine ev_iconst (x := 3) zo_177_105 (by decide) rfl ?_
  by_cases c3 : l2 = (3 : Int32)
  · rw [if_pos c3] at h
    refine ev_cmp_f (t := 116) zo_177_106 rfl (zcm_nne c3) rfl ?_
    refine ev_iconst (x := 2) zo_177_109 (by decide) rfl ?_
    refine ev_iload zo_177_110 rfl rfl ?_
    refine ev_imul zo_177_112 rfl ?_
    refine ev_goto (t := 130) zo_177_113 rfl ?_
    obtain rfl := Option.some.inj h
    exact ev_retI zo_177_130 zr_177
  rw [if_neg c3] at h
  refine ev_cmp_t (t := 116) zo_177_106 rfl (zcm_ne c3) ?_
  refine ev_iload_n zo_177_116 rfl rfl rfl ?_
  refine ev_iconst (x := 2) zo_177_117 (by decide) rfl ?_
  by_cases c4 : l2 = (2 : Int32)
  · rw [if_pos c4] at h
    refine ev_cmp_f (t := 128) zo_177_118 rfl (zcm_nne c4) rfl ?_
    refine ev_iload zo_177_121 rfl rfl ?_
    refine ev_iload_n zo_177_123 rfl rfl rfl ?_
    refine ev_isub zo_177_124 rfl ?_
    refine ev_goto (t := 130) zo_177_125 rfl ?_
    obtain rfl := Option.some.inj h
    exact ev_retI zo_177_130 zr_177
  rw [if_neg c4] at h
  refine ev_cmp_t (t := 128) zo_177_118 rfl (zcm_ne c4) ?_
  refine ev_iload zo_177_128 rfl rfl ?_
  obtain rfl := Option.some.inj h
  exact ev_retI zo_177_130 zr_177
def F_X7_gladOf_65 (l2 : Int32) (l3 : Int32) (l4 : Int32) (t0 : Int32) (J : zzJ) : Option (Int32 × zzJ) := (if l3 = (5 : Int32) then F_X7_gladOf_81 l2 l3 l4 t0 (t0 + (5 : Int32)) J else F_X7_gladOf_81 l2 l3 l4 t0 t0 J)
set_option maxRecDepth 100000 in
set_option maxHeartbeats 2000000 in
theorem G_X7_gladOf_65 {d : Nat} (hd : 93 ≤ d) : ∀ (l2 : Int32) (l3 : Int32) (l4 : Int32) (t0 : Int32) (J : zzJ) (r : Int32 × zzJ), F_X7_gladOf_65 l2 l3 l4 t0 J = some r → ∀ (lv1 : Value) (hlv1 : lv1.category = 1), zzEv d 177 65 [.ref 46, lv1, .int l2, .int l3, .int l4, zzU, zzU] [.int t0] (zK J) (some (.int r.1), zK r.2) := by
  intro l2 l3 l4 t0 J r h lv1 hlv1
  unfold F_X7_gladOf_65 at h
  refine ev_istore zo_177_65 (zz_set rfl (by decide) (Nat.le_of_ble_eq_true rfl)) rfl ?_
  show zzEv _ _ _ [.ref 46, lv1, .int l2, .int l3, .int l4, .int t0, zzU] _ _ _
  refine ev_iload_n zo_177_67 rfl rfl rfl ?_
  refine ev_iconst (x := 5) zo_177_68 (by decide) rfl ?_
  by_cases c5 : l3 = (5 : Int32)
  · rw [if_pos c5] at h
    refine ev_cmp_f (t := 79) zo_177_69 rfl (zcm_nne c5) rfl ?_
    refine ev_iload zo_177_72 rfl rfl ?_
    refine ev_iconst (x := 5) zo_177_74 (by decide) rfl ?_
    refine ev_iadd zo_177_75 rfl ?_
    refine ev_goto (t := 81) zo_177_76 rfl ?_
    exact G_X7_gladOf_81 hd l2 l3 l4 t0 (t0 + (5 : Int32)) J r h (lv1) hlv1
  rw [if_neg c5] at h
  refine ev_cmp_t (t := 79) zo_177_69 rfl (zcm_ne c5) ?_
  refine ev_iload zo_177_79 rfl rfl ?_
  exact G_X7_gladOf_81 hd l2 l3 l4 t0 t0 J r h (lv1) hlv1
def F_X7_gladOf (x1 : Int32) (J : zzJ) : Option (Int32 × zzJ) := (if zzIx x1 8 then (if zzIx x1 8 then (if (J.2 53 x1.toNatClampNeg) = (-1 : Int32) then some ((0 : Int32), J) else (if (J.2 50 x1.toNatClampNeg) = (4 : Int32) then some ((3 : Int32), J) else (if zzIx x1 8 then (Option.bind (F_X7_asks (2 : Int32) x1 (J.2 46 7) J) fun q11 => (Option.bind (F_X7_hasFriend x1 q11.2) fun q12 => (if q12.1 = (0 : Int32) then F_X7_gladOf_65 (J.2 50 x1.toNatClampNeg) ((J.2 53 x1.toNatClampNeg) / (4 : Int32)) q11.1 q11.1 q12.2 else F_X7_gladOf_65 (J.2 50 x1.toNatClampNeg) ((J.2 53 x1.toNatClampNeg) / (4 : Int32)) q11.1 (q11.1 + (10 : Int32)) q12.2))) else none))) else none) else none)
set_option maxRecDepth 100000 in
set_option maxHeartbeats 2000000 in
theorem G_X7_gladOf {d : Nat} (hd : 93 ≤ d) (x1 : Int32) (J : zzJ) (r : Int32 × zzJ) (h : F_X7_gladOf x1 J = some r) : zzEv d 177 0 [.ref 46, .int x1, zzU, zzU, zzU, zzU, zzU] [] (zK J) (some (.int r.1), zK r.2) := by
  unfold F_X7_gladOf at h
  refine ev_aload_n zo_177_0 rfl rfl rfl rfl ?_
  refine ev_getR zo_177_1 zf_177_26 (by decide) rfl rfl rfl rfl ?_
  refine ev_iload_n zo_177_4 rfl rfl rfl ?_
  obtain ⟨c6, h⟩ := zz_chk h
  refine ev_iald zo_177_5 rfl c6 rfl ?_
  refine ev_istore_n zo_177_6 rfl (zz_set rfl (by decide) (Nat.le_of_ble_eq_true rfl)) rfl ?_
  show zzEv _ _ _ [.ref 46, .int x1, .int (J.2 50 x1.toNatClampNeg), zzU, zzU, zzU, zzU] _ _ _
  refine ev_aload_n zo_177_7 rfl rfl rfl rfl ?_
  refine ev_getR zo_177_8 zf_177_35 (by decide) rfl rfl rfl rfl ?_
  refine ev_iload_n zo_177_11 rfl rfl rfl ?_
  obtain ⟨c7, h⟩ := zz_chk h
  refine ev_iald zo_177_12 rfl c7 rfl ?_
  refine ev_iconst (x := (-1)) zo_177_13 (by decide) rfl ?_
  by_cases c8 : (J.2 53 x1.toNatClampNeg) = (-1 : Int32)
  · rw [if_pos c8] at h
    refine ev_cmp_f (t := 19) zo_177_14 rfl (zcm_nne c8) rfl ?_
    refine ev_iconst (x := 0) zo_177_17 (by decide) rfl ?_
    obtain rfl := Option.some.inj h
    exact ev_retI zo_177_18 zr_177
  rw [if_neg c8] at h
  refine ev_cmp_t (t := 19) zo_177_14 rfl (zcm_ne c8) ?_
  refine ev_iload_n zo_177_19 rfl rfl rfl ?_
  refine ev_iconst (x := 4) zo_177_20 (by decide) rfl ?_
  by_cases c9 : (J.2 50 x1.toNatClampNeg) = (4 : Int32)
  · rw [if_pos c9] at h
    refine ev_cmp_f (t := 26) zo_177_21 rfl (zcm_nne c9) rfl ?_
    refine ev_iconst (x := 3) zo_177_24 (by decide) rfl ?_
    obtain rfl := Option.some.inj h
    exact ev_retI zo_177_25 zr_177
  rw [if_neg c9] at h
  refine ev_cmp_t (t := 26) zo_177_21 rfl (zcm_ne c9) ?_
  refine ev_aload_n zo_177_26 rfl rfl rfl rfl ?_
  refine ev_getR zo_177_27 zf_177_35 (by decide) rfl rfl rfl rfl ?_
  refine ev_iload_n zo_177_30 rfl rfl rfl ?_
  obtain ⟨c10, h⟩ := zz_chk h
  refine ev_iald zo_177_31 rfl c10 rfl ?_
  refine ev_iconst (x := 4) zo_177_32 (by decide) rfl ?_
  refine ev_idiv zo_177_33 (by decide) rfl ?_
  refine ev_istore_n zo_177_34 rfl (zz_set rfl (by decide) (Nat.le_of_ble_eq_true rfl)) rfl ?_
  show zzEv _ _ _ [.ref 46, .int x1, .int (J.2 50 x1.toNatClampNeg), .int ((J.2 53 x1.toNatClampNeg) / (4 : Int32)), zzU, zzU, zzU] _ _ _
  refine ev_aload_n zo_177_35 rfl rfl rfl rfl ?_
  refine ev_iconst (x := 2) zo_177_36 (by decide) rfl ?_
  refine ev_iload_n zo_177_37 rfl rfl rfl ?_
  refine ev_aload_n zo_177_38 rfl rfl rfl rfl ?_
  refine ev_getI zo_177_39 zf_177_118 (by decide) (Or.inl rfl) rfl rfl ?_
  obtain ⟨q11, hq11, h⟩ := zz_bd h
  refine ev_cV (as := [.int (J.2 46 7), .int x1, .int (2 : Int32)]) (lsn := [.ref 46, .int (2 : Int32), .int x1, .int (J.2 46 7)]) (by omega) zo_177_42 zl_177_278 (by rw [zm_174]; rfl) (by rw [zm_174]; exact rfl) (by rw [zm_174]; decide) (by unfold zzIn; rw [zm_174]; rfl) (by rw [zm_174]; exact Nat.le_of_ble_eq_true rfl) (Nat.le_of_ble_eq_true rfl) (G_X7_asks (by omega) (2 : Int32) x1 (J.2 46 7) J q11 hq11) rfl ?_
  show zzEv _ _ _ _ [.int q11.1] _ _
  refine ev_istore zo_177_45 (zz_set rfl (by decide) (Nat.le_of_ble_eq_true rfl)) rfl ?_
  show zzEv _ _ _ [.ref 46, .int x1, .int (J.2 50 x1.toNatClampNeg), .int ((J.2 53 x1.toNatClampNeg) / (4 : Int32)), .int q11.1, zzU, zzU] _ _ _
  refine ev_aload_n zo_177_47 rfl rfl rfl rfl ?_
  refine ev_iload_n zo_177_48 rfl rfl rfl ?_
  obtain ⟨q12, hq12, h⟩ := zz_bd h
  refine ev_cV (as := [.int x1]) (lsn := [.ref 46, .int x1]) (by omega) zo_177_49 zl_177_271 (by rw [zm_173]; rfl) (by rw [zm_173]; exact rfl) (by rw [zm_173]; decide) (by unfold zzIn; rw [zm_173]; rfl) (by rw [zm_173]; exact Nat.le_of_ble_eq_true rfl) (Nat.le_of_ble_eq_true rfl) (G_X7_hasFriend (by omega) x1 q11.2 q12 hq12) rfl ?_
  show zzEv _ _ _ _ [.int q12.1] _ _
  by_cases c13 : q12.1 = (0 : Int32)
  · rw [if_pos c13] at h
    refine ev_if_t (t := 63) zo_177_52 rfl (zcm_eq c13) ?_
    refine ev_iload zo_177_63 rfl rfl ?_
    exact G_X7_gladOf_65 hd (J.2 50 x1.toNatClampNeg) ((J.2 53 x1.toNatClampNeg) / (4 : Int32)) q11.1 q11.1 q12.2 r h (.int x1) rfl
  rw [if_neg c13] at h
  refine ev_if_f (t := 63) zo_177_52 rfl (zcm_neq c13) rfl ?_
  refine ev_iload zo_177_55 rfl rfl ?_
  refine ev_bipush (x := 10) zo_177_57 (by decide) rfl ?_
  refine ev_iadd zo_177_59 rfl ?_
  refine ev_goto (t := 65) zo_177_60 rfl ?_
  exact G_X7_gladOf_65 hd (J.2 50 x1.toNatClampNeg) ((J.2 53 x1.toNatClampNeg) / (4 : Int32)) q11.1 (q11.1 + (10 : Int32)) q12.2 r h (.int x1) rfl
/-! X7_din -/
def F_X7_din_4 : Nat → Int32 → Int32 → zzJ → Option (Int32 × zzJ)
  | 0, _, _, _ => none
  | n + 1, l1, l2, J => (if l2 < (J.2 46 14) then (Option.bind (F_X7_noiseOf l2 J) fun q2 => F_X7_din_4 n (l1 + q2.1) (l2 + 1) q2.2) else some (l1, J))
set_option maxRecDepth 100000 in
set_option maxHeartbeats 2000000 in
theorem G_X7_din_4 {d : Nat} (hd : 94 ≤ d) : ∀ (n : Nat) (l1 : Int32) (l2 : Int32) (J : zzJ) (r : Int32 × zzJ), F_X7_din_4 n l1 l2 J = some r → zzEv d 178 4 [.ref 46, .int l1, .int l2] [] (zK J) (some (.int r.1), zK r.2) := by
  intro n
  induction n with
  | zero => intro l1 l2 J r h; simp [F_X7_din_4] at h
  | succ n ih =>
    intro l1 l2 J r h
    rw [F_X7_din_4] at h
    refine ev_iload_n zo_178_4 rfl rfl rfl ?_
    refine ev_aload_n zo_178_5 rfl rfl rfl rfl ?_
    refine ev_getI zo_178_6 zf_178_85 (by decide) (Or.inl rfl) rfl rfl ?_
    by_cases c1 : l2 < (J.2 46 14)
    · rw [if_pos c1] at h
      refine ev_cmp_f (t := 26) zo_178_9 rfl (zcm_nge c1) rfl ?_
      refine ev_iload_n zo_178_12 rfl rfl rfl ?_
      refine ev_aload_n zo_178_13 rfl rfl rfl rfl ?_
      refine ev_iload_n zo_178_14 rfl rfl rfl ?_
      obtain ⟨q2, hq2, h⟩ := zz_bd h
      refine ev_cV (as := [.int l2]) (lsn := [.ref 46, .int l2, zzU, zzU, zzU, zzU]) (by omega) zo_178_15 zl_178_133 (by rw [zm_175]; rfl) (by rw [zm_175]; exact rfl) (by rw [zm_175]; decide) (by unfold zzIn; rw [zm_175]; rfl) (by rw [zm_175]; exact Nat.le_of_ble_eq_true rfl) (Nat.le_of_ble_eq_true rfl) (G_X7_noiseOf (by omega) l2 J q2 hq2) rfl ?_
      show zzEv _ _ _ _ [.int q2.1, .int l1] _ _
      refine ev_iadd zo_178_18 rfl ?_
      refine ev_istore_n zo_178_19 rfl (zz_set rfl (by decide) (Nat.le_of_ble_eq_true rfl)) rfl ?_
      show zzEv _ _ _ [.ref 46, .int (l1 + q2.1), .int l2] _ _ _
      refine ev_iinc (v := 1) zo_178_20 rfl (by decide) (zz_set rfl (by decide) (Nat.le_of_ble_eq_true rfl)) rfl ?_
      show zzEv _ _ _ [.ref 46, .int (l1 + q2.1), .int (l2 + 1)] _ _ _
      refine ev_goto (t := 4) zo_178_23 rfl ?_
      exact ih (l1 + q2.1) (l2 + 1) q2.2 r h
    rw [if_neg c1] at h
    refine ev_cmp_t (t := 26) zo_178_9 rfl (zcm_ge c1) ?_
    refine ev_iload_n zo_178_26 rfl rfl rfl ?_
    obtain rfl := Option.some.inj h
    exact ev_retI zo_178_27 zr_178
def F_X7_din (J : zzJ) : Option (Int32 × zzJ) := F_X7_din_4 4096 (0 : Int32) (0 : Int32) J
set_option maxRecDepth 100000 in
set_option maxHeartbeats 2000000 in
theorem G_X7_din {d : Nat} (hd : 94 ≤ d) (J : zzJ) (r : Int32 × zzJ) (h : F_X7_din J = some r) : zzEv d 178 0 [.ref 46, zzU, zzU] [] (zK J) (some (.int r.1), zK r.2) := by
  unfold F_X7_din at h
  refine ev_iconst (x := 0) zo_178_0 (by decide) rfl ?_
  refine ev_istore_n zo_178_1 rfl (zz_set rfl (by decide) (Nat.le_of_ble_eq_true rfl)) rfl ?_
  show zzEv _ _ _ [.ref 46, .int (0 : Int32), zzU] _ _ _
  refine ev_iconst (x := 0) zo_178_2 (by decide) rfl ?_
  refine ev_istore_n zo_178_3 rfl (zz_set rfl (by decide) (Nat.le_of_ble_eq_true rfl)) rfl ?_
  show zzEv _ _ _ [.ref 46, .int (0 : Int32), .int (0 : Int32)] _ _ _
  exact G_X7_din_4 hd 4096 (0 : Int32) (0 : Int32) J r h
/-! X7_joy -/
def F_X7_joy_4 : Nat → Int32 → Int32 → zzJ → Option (Int32 × zzJ)
  | 0, _, _, _ => none
  | n + 1, l1, l2, J => (if l2 < (J.2 46 14) then (Option.bind (F_X7_gladOf l2 J) fun q2 => F_X7_joy_4 n (l1 + q2.1) (l2 + 1) q2.2) else some (l1, J))
set_option maxRecDepth 100000 in
set_option maxHeartbeats 2000000 in
theorem G_X7_joy_4 {d : Nat} (hd : 94 ≤ d) : ∀ (n : Nat) (l1 : Int32) (l2 : Int32) (J : zzJ) (r : Int32 × zzJ), F_X7_joy_4 n l1 l2 J = some r → zzEv d 179 4 [.ref 46, .int l1, .int l2] [] (zK J) (some (.int r.1), zK r.2) := by
  intro n
  induction n with
  | zero => intro l1 l2 J r h; simp [F_X7_joy_4] at h
  | succ n ih =>
    intro l1 l2 J r h
    rw [F_X7_joy_4] at h
    refine ev_iload_n zo_179_4 rfl rfl rfl ?_
    refine ev_aload_n zo_179_5 rfl rfl rfl rfl ?_
    refine ev_getI zo_179_6 zf_179_85 (by decide) (Or.inl rfl) rfl rfl ?_
    by_cases c1 : l2 < (J.2 46 14)
    · rw [if_pos c1] at h
      refine ev_cmp_f (t := 26) zo_179_9 rfl (zcm_nge c1) rfl ?_
      refine ev_iload_n zo_179_12 rfl rfl rfl ?_
      refine ev_aload_n zo_179_13 rfl rfl rfl rfl ?_
      refine ev_iload_n zo_179_14 rfl rfl rfl ?_
      obtain ⟨q2, hq2, h⟩ := zz_bd h
      refine ev_cV (as := [.int l2]) (lsn := [.ref 46, .int l2, zzU, zzU, zzU, zzU, zzU]) (by omega) zo_179_15 zl_179_281 (by rw [zm_177]; rfl) (by rw [zm_177]; exact rfl) (by rw [zm_177]; decide) (by unfold zzIn; rw [zm_177]; rfl) (by rw [zm_177]; exact Nat.le_of_ble_eq_true rfl) (Nat.le_of_ble_eq_true rfl) (G_X7_gladOf (by omega) l2 J q2 hq2) rfl ?_
      show zzEv _ _ _ _ [.int q2.1, .int l1] _ _
      refine ev_iadd zo_179_18 rfl ?_
      refine ev_istore_n zo_179_19 rfl (zz_set rfl (by decide) (Nat.le_of_ble_eq_true rfl)) rfl ?_
      show zzEv _ _ _ [.ref 46, .int (l1 + q2.1), .int l2] _ _ _
      refine ev_iinc (v := 1) zo_179_20 rfl (by decide) (zz_set rfl (by decide) (Nat.le_of_ble_eq_true rfl)) rfl ?_
      show zzEv _ _ _ [.ref 46, .int (l1 + q2.1), .int (l2 + 1)] _ _ _
      refine ev_goto (t := 4) zo_179_23 rfl ?_
      exact ih (l1 + q2.1) (l2 + 1) q2.2 r h
    rw [if_neg c1] at h
    refine ev_cmp_t (t := 26) zo_179_9 rfl (zcm_ge c1) ?_
    refine ev_iload_n zo_179_26 rfl rfl rfl ?_
    obtain rfl := Option.some.inj h
    exact ev_retI zo_179_27 zr_179
def F_X7_joy (J : zzJ) : Option (Int32 × zzJ) := F_X7_joy_4 4096 (0 : Int32) (0 : Int32) J
set_option maxRecDepth 100000 in
set_option maxHeartbeats 2000000 in
theorem G_X7_joy {d : Nat} (hd : 94 ≤ d) (J : zzJ) (r : Int32 × zzJ) (h : F_X7_joy J = some r) : zzEv d 179 0 [.ref 46, zzU, zzU] [] (zK J) (some (.int r.1), zK r.2) := by
  unfold F_X7_joy at h
  refine ev_iconst (x := 0) zo_179_0 (by decide) rfl ?_
  refine ev_istore_n zo_179_1 rfl (zz_set rfl (by decide) (Nat.le_of_ble_eq_true rfl)) rfl ?_
  show zzEv _ _ _ [.ref 46, .int (0 : Int32), zzU] _ _ _
  refine ev_iconst (x := 0) zo_179_2 (by decide) rfl ?_
  refine ev_istore_n zo_179_3 rfl (zz_set rfl (by decide) (Nat.le_of_ble_eq_true rfl)) rfl ?_
  show zzEv _ _ _ [.ref 46, .int (0 : Int32), .int (0 : Int32)] _ _ _
  exact G_X7_joy_4 hd 4096 (0 : Int32) (0 : Int32) J r h
/-! X7_all -/
def F_X7_all_41 : Nat → Int32 → Int32 → zzJ → Option (Int32 × zzJ)
  | 0, _, _, _ => none
  | n + 1, l2, l3, J => (if l3 < (J.2 46 14) then (if zzIx l3 8 then (if (J.2 53 l3.toNatClampNeg) = (-1 : Int32) then F_X7_all_41 n (l2 + (0 : Int32)) (l3 + 1) J else (Option.bind (F_X7_besideOf l3 J) fun q4 => (if q4.1 = (0 : Int32) then F_X7_all_41 n (l2 + (1 : Int32)) (l3 + 1) q4.2 else F_X7_all_41 n (l2 + (0 : Int32)) (l3 + 1) q4.2))) else none) else some (l2, J))
set_option maxRecDepth 100000 in
set_option maxHeartbeats 2000000 in
theorem G_X7_all_41 {d : Nat} (hd : 95 ≤ d) : ∀ (n : Nat) (l2 : Int32) (l3 : Int32) (J : zzJ) (r : Int32 × zzJ), F_X7_all_41 n l2 l3 J = some r → ∀ (lv1 : Value) (hlv1 : lv1.category = 1), zzEv d 180 41 [.ref 46, lv1, .int l2, .int l3] [] (zK J) (some (.int r.1), zK r.2) := by
  intro n
  induction n with
  | zero => intro l2 l3 J r h; simp [F_X7_all_41] at h
  | succ n ih =>
    intro l2 l3 J r h lv1 hlv1
    rw [F_X7_all_41] at h
    refine ev_iload_n zo_180_41 rfl rfl rfl ?_
    refine ev_aload_n zo_180_42 rfl rfl rfl rfl ?_
    refine ev_getI zo_180_43 zf_180_85 (by decide) (Or.inl rfl) rfl rfl ?_
    by_cases c1 : l3 < (J.2 46 14)
    · rw [if_pos c1] at h
      refine ev_cmp_f (t := 81) zo_180_46 rfl (zcm_nge c1) rfl ?_
      refine ev_iload_n zo_180_49 rfl rfl rfl ?_
      refine ev_aload_n zo_180_50 rfl rfl rfl rfl ?_
      refine ev_getR zo_180_51 zf_180_35 (by decide) rfl rfl rfl rfl ?_
      refine ev_iload_n zo_180_54 rfl rfl rfl ?_
      obtain ⟨c2, h⟩ := zz_chk h
      refine ev_iald zo_180_55 rfl c2 rfl ?_
      refine ev_iconst (x := (-1)) zo_180_56 (by decide) rfl ?_
      by_cases c3 : (J.2 53 l3.toNatClampNeg) = (-1 : Int32)
      · rw [if_pos c3] at h
        refine ev_cmp_t (t := 72) zo_180_57 rfl (zcm_eq c3) ?_
        refine ev_iconst (x := 0) zo_180_72 (by decide) rfl ?_
        refine ev_iadd zo_180_73 rfl ?_
        refine ev_istore_n zo_180_74 rfl (zz_set (zz_lg (j := 1) rfl hlv1) (by decide) (Nat.le_of_ble_eq_true rfl)) rfl ?_
        show zzEv _ _ _ [.ref 46, lv1, .int (l2 + (0 : Int32)), .int l3] _ _ _
        refine ev_iinc (v := 1) zo_180_75 rfl (by decide) (zz_set rfl (by decide) (Nat.le_of_ble_eq_true rfl)) rfl ?_
        show zzEv _ _ _ [.ref 46, lv1, .int (l2 + (0 : Int32)), .int (l3 + 1)] _ _ _
        refine ev_goto (t := 41) zo_180_78 rfl ?_
        exact ih (l2 + (0 : Int32)) (l3 + 1) J r h (lv1) hlv1
      rw [if_neg c3] at h
      refine ev_cmp_f (t := 72) zo_180_57 rfl (zcm_neq c3) rfl ?_
      refine ev_aload_n zo_180_60 rfl rfl rfl rfl ?_
      refine ev_iload_n zo_180_61 rfl rfl rfl ?_
      obtain ⟨q4, hq4, h⟩ := zz_bd h
      refine ev_cV (as := [.int l3]) (lsn := [.ref 46, .int l3]) (by omega) zo_180_62 zl_180_140 (by rw [zm_170]; rfl) (by rw [zm_170]; exact rfl) (by rw [zm_170]; decide) (by unfold zzIn; rw [zm_170]; rfl) (by rw [zm_170]; exact Nat.le_of_ble_eq_true rfl) (Nat.le_of_ble_eq_true rfl) (G_X7_besideOf (by omega) l3 J q4 hq4) rfl ?_
      show zzEv _ _ _ _ [.int q4.1, .int l2] _ _
      by_cases c5 : q4.1 = (0 : Int32)
      · rw [if_pos c5] at h
        refine ev_if_f (t := 72) zo_180_65 rfl (zcm_nne c5) rfl ?_
        refine ev_iconst (x := 1) zo_180_68 (by decide) rfl ?_
        refine ev_goto (t := 73) zo_180_69 rfl ?_
        refine ev_iadd zo_180_73 rfl ?_
        refine ev_istore_n zo_180_74 rfl (zz_set (zz_lg (j := 1) rfl hlv1) (by decide) (Nat.le_of_ble_eq_true rfl)) rfl ?_
        show zzEv _ _ _ [.ref 46, lv1, .int (l2 + (1 : Int32)), .int l3] _ _ _
        refine ev_iinc (v := 1) zo_180_75 rfl (by decide) (zz_set rfl (by decide) (Nat.le_of_ble_eq_true rfl)) rfl ?_
        show zzEv _ _ _ [.ref 46, lv1, .int (l2 + (1 : Int32)), .int (l3 + 1)] _ _ _
        refine ev_goto (t := 41) zo_180_78 rfl ?_
        exact ih (l2 + (1 : Int32)) (l3 + 1) q4.2 r h (lv1) hlv1
      rw [if_neg c5] at h
      refine ev_if_t (t := 72) zo_180_65 rfl (zcm_ne c5) ?_
      refine ev_iconst (x := 0) zo_180_72 (by decide) rfl ?_
      refine ev_iadd zo_180_73 rfl ?_
      refine ev_istore_n zo_180_74 rfl (zz_set (zz_lg (j := 1) rfl hlv1) (by decide) (Nat.le_of_ble_eq_true rfl)) rfl ?_
      show zzEv _ _ _ [.ref 46, lv1, .int (l2 + (0 : Int32)), .int l3] _ _ _
      refine ev_iinc (v := 1) zo_180_75 rfl (by decide) (zz_set rfl (by decide) (Nat.le_of_ble_eq_true rfl)) rfl ?_
      show zzEv _ _ _ [.ref 46, lv1, .int (l2 + (0 : Int32)), .int (l3 + 1)] _ _ _
      refine ev_goto (t := 41) zo_180_78 rfl ?_
      exact ih (l2 + (0 : Int32)) (l3 + 1) q4.2 r h (lv1) hlv1
    rw [if_neg c1] at h
    refine ev_cmp_t (t := 81) zo_180_46 rfl (zcm_ge c1) ?_
    refine ev_iload_n zo_180_81 rfl rfl rfl ?_
    obtain rfl := Option.some.inj h
    exact ev_retI zo_180_82 zr_180
def F_X7_all (x1 : Int32) (J : zzJ) : Option (Int32 × zzJ) := (Option.bind (F_X7_in x1.toInt64 (0 : Int64) (2 : Int64) J) fun q6 => (if q6.1 = (0 : Int32) then some ((-100000 : Int32), q6.2) else (if x1 < (2 : Int32) then (if x1 = (0 : Int32) then (Option.bind (F_X7_din q6.2) fun q11 => some (q11.1, q11.2)) else (Option.bind (F_X7_joy q6.2) fun q10 => some (q10.1, q10.2))) else F_X7_all_41 4096 (0 : Int32) (0 : Int32) q6.2)))
set_option maxRecDepth 100000 in
set_option maxHeartbeats 2000000 in
theorem G_X7_all {d : Nat} (hd : 95 ≤ d) (x1 : Int32) (J : zzJ) (r : Int32 × zzJ) (h : F_X7_all x1 J = some r) : zzEv d 180 0 [.ref 46, .int x1, zzU, zzU] [] (zK J) (some (.int r.1), zK r.2) := by
  unfold F_X7_all at h
  refine ev_iload_n zo_180_0 rfl rfl rfl ?_
  refine ev_i2l zo_180_1 rfl ?_
  refine ev_lconst (x := 0) zo_180_2 (by decide) rfl ?_
  refine ev_ldc2 zo_180_3 zc_180_284 rfl ?_
  obtain ⟨q6, hq6, h⟩ := zz_bd h
  refine ev_cS (as := [.long (2 : Int64), .long (0 : Int64), .long x1.toInt64]) (lsn := [.long x1.toInt64, zzU, .long (0 : Int64), zzU, .long (2 : Int64), zzU]) (by omega) zo_180_6 zl_180_88 (by decide) (by rw [zm_136]; rfl) (by unfold zzIn; rw [zm_136]; rfl) (by rw [zm_136]; exact Nat.le_of_ble_eq_true rfl) (Nat.le_of_ble_eq_true rfl) (G_X7_in (by omega) x1.toInt64 (0 : Int64) (2 : Int64) J q6 hq6) rfl ?_
  show zzEv _ _ _ _ [.int q6.1] _ _
  by_cases c7 : q6.1 = (0 : Int32)
  · rw [if_pos c7] at h
    refine ev_if_f (t := 16) zo_180_9 rfl (zcm_nne c7) rfl ?_
    refine ev_ldcw zo_180_12 zc_180_286 rfl ?_
    obtain rfl := Option.some.inj h
    exact ev_retI zo_180_15 zr_180
  rw [if_neg c7] at h
  refine ev_if_t (t := 16) zo_180_9 rfl (zcm_ne c7) ?_
  refine ev_iload_n zo_180_16 rfl rfl rfl ?_
  refine ev_iconst (x := 2) zo_180_17 (by decide) rfl ?_
  by_cases c8 : x1 < (2 : Int32)
  · rw [if_pos c8] at h
    refine ev_cmp_f (t := 37) zo_180_18 rfl (zcm_nge c8) rfl ?_
    refine ev_iload_n zo_180_21 rfl rfl rfl ?_
    by_cases c9 : x1 = (0 : Int32)
    · rw [if_pos c9] at h
      refine ev_if_f (t := 32) zo_180_22 rfl (zcm_nne c9) rfl ?_
      refine ev_aload_n zo_180_25 rfl rfl rfl rfl ?_
      obtain ⟨q11, hq11, h⟩ := zz_bd h
      refine ev_cV (as := []) (lsn := [.ref 46, zzU, zzU]) (by omega) zo_180_26 zl_180_287 (by rw [zm_178]; rfl) (by rw [zm_178]; exact rfl) (by rw [zm_178]; decide) (by unfold zzIn; rw [zm_178]; rfl) (by rw [zm_178]; exact Nat.le_of_ble_eq_true rfl) (Nat.le_of_ble_eq_true rfl) (G_X7_din (by omega) q6.2 q11 hq11) rfl ?_
      show zzEv _ _ _ _ [.int q11.1] _ _
      refine ev_goto (t := 36) zo_180_29 rfl ?_
      obtain rfl := Option.some.inj h
      exact ev_retI zo_180_36 zr_180
    rw [if_neg c9] at h
    refine ev_if_t (t := 32) zo_180_22 rfl (zcm_ne c9) ?_
    refine ev_aload_n zo_180_32 rfl rfl rfl rfl ?_
    obtain ⟨q10, hq10, h⟩ := zz_bd h
    refine ev_cV (as := []) (lsn := [.ref 46, zzU, zzU]) (by omega) zo_180_33 zl_180_290 (by rw [zm_179]; rfl) (by rw [zm_179]; exact rfl) (by rw [zm_179]; decide) (by unfold zzIn; rw [zm_179]; rfl) (by rw [zm_179]; exact Nat.le_of_ble_eq_true rfl) (Nat.le_of_ble_eq_true rfl) (G_X7_joy (by omega) q6.2 q10 hq10) rfl ?_
    show zzEv _ _ _ _ [.int q10.1] _ _
    obtain rfl := Option.some.inj h
    exact ev_retI zo_180_36 zr_180
  rw [if_neg c8] at h
  refine ev_cmp_t (t := 37) zo_180_18 rfl (zcm_ge c8) ?_
  refine ev_iconst (x := 0) zo_180_37 (by decide) rfl ?_
  refine ev_istore_n zo_180_38 rfl (zz_set rfl (by decide) (Nat.le_of_ble_eq_true rfl)) rfl ?_
  show zzEv _ _ _ [.ref 46, .int x1, .int (0 : Int32), zzU] _ _ _
  refine ev_iconst (x := 0) zo_180_39 (by decide) rfl ?_
  refine ev_istore_n zo_180_40 rfl (zz_set rfl (by decide) (Nat.le_of_ble_eq_true rfl)) rfl ?_
  show zzEv _ _ _ [.ref 46, .int x1, .int (0 : Int32), .int (0 : Int32)] _ _ _
  exact G_X7_all_41 hd 4096 (0 : Int32) (0 : Int32) q6.2 r h (.int x1) rfl
/-! X7_rides -/
def F_X7_rides_190 (kl_49 : Int32 → Int32 → Int32 → zzJ → Option (zzJ)) : Nat → Int32 → Int32 → Int32 → Int32 → zzJ → Option (zzJ)
  | 0, _, _, _, _, _ => none
  | n + 1, l1, l2, l3, l4, J => (if l4 < (J.2 46 14) then (if l3 = l2 then (if zzIx l4 8 then F_X7_rides_190 kl_49 n l1 l2 l3 (l4 + 1) (wI J 55 l4.toNatClampNeg (0 : Int32)) else none) else kl_49 l1 l2 (l3 + 1) J) else kl_49 l1 l2 (l3 + 1) J)
set_option maxRecDepth 100000 in
set_option maxHeartbeats 2000000 in
theorem G_X7_rides_190 {d : Nat} (kl_49 : Int32 → Int32 → Int32 → zzJ → Option (zzJ)) (hkl_49 : ∀ (l1 : Int32) (l2 : Int32) (l3 : Int32) (J : zzJ) (r : zzJ), kl_49 l1 l2 l3 J = some r → ∀ (lv4 : Value) (hlv4 : lv4.category = 1), zzEv d 181 49 [.ref 46, .int l1, .int l2, .int l3, lv4] [] (zK J) (none, zK r)) (hd : 94 ≤ d) : ∀ (n : Nat) (l1 : Int32) (l2 : Int32) (l3 : Int32) (l4 : Int32) (J : zzJ) (r : zzJ), F_X7_rides_190 kl_49 n l1 l2 l3 l4 J = some r → zzEv d 181 190 [.ref 46, .int l1, .int l2, .int l3, .int l4] [] (zK J) (none, zK r) := by
  intro n
  induction n with
  | zero => intro l1 l2 l3 l4 J r h; simp [F_X7_rides_190] at h
  | succ n ih =>
    intro l1 l2 l3 l4 J r h
    rw [F_X7_rides_190] at h
    refine ev_iload zo_181_190 rfl rfl ?_
    refine ev_aload_n zo_181_192 rfl rfl rfl rfl ?_
    refine ev_getI zo_181_193 zf_181_85 (by decide) (Or.inl rfl) rfl rfl ?_
    by_cases c1 : l4 < (J.2 46 14)
    · rw [if_pos c1] at h
      refine ev_cmp_f (t := 218) zo_181_196 rfl (zcm_nge c1) rfl ?_
      refine ev_iload_n zo_181_199 rfl rfl rfl ?_
      refine ev_iload_n zo_181_200 rfl rfl rfl ?_
      by_cases c2 : l3 = l2
      · rw [if_pos c2] at h
        refine ev_cmp_f (t := 218) zo_181_201 rfl (zcm_nne c2) rfl ?_
        refine ev_aload_n zo_181_204 rfl rfl rfl rfl ?_
        refine ev_getR zo_181_205 zf_181_41 (by decide) rfl rfl rfl rfl ?_
        refine ev_iload zo_181_208 rfl rfl ?_
        refine ev_iconst (x := 0) zo_181_210 (by decide) rfl ?_
        obtain ⟨c3, h⟩ := zz_chk h
        refine ev_iast zo_181_211 rfl c3 rfl ?_
        refine ev_iinc (v := 1) zo_181_212 rfl (by decide) (zz_set rfl (by decide) (Nat.le_of_ble_eq_true rfl)) rfl ?_
        show zzEv _ _ _ [.ref 46, .int l1, .int l2, .int l3, .int (l4 + 1)] _ _ _
        refine ev_goto (t := 190) zo_181_215 rfl ?_
        exact ih l1 l2 l3 (l4 + 1) (wI J 55 l4.toNatClampNeg (0 : Int32)) r h
      rw [if_neg c2] at h
      refine ev_cmp_t (t := 218) zo_181_201 rfl (zcm_ne c2) ?_
      refine ev_iinc (v := 1) zo_181_218 rfl (by decide) (zz_set rfl (by decide) (Nat.le_of_ble_eq_true rfl)) rfl ?_
      show zzEv _ _ _ [.ref 46, .int l1, .int l2, .int (l3 + 1), .int l4] _ _ _
      refine ev_goto (t := 49) zo_181_221 rfl ?_
      exact hkl_49 l1 l2 (l3 + 1) J r h (.int l4) rfl
    rw [if_neg c1] at h
    refine ev_cmp_t (t := 218) zo_181_196 rfl (zcm_ge c1) ?_
    refine ev_iinc (v := 1) zo_181_218 rfl (by decide) (zz_set rfl (by decide) (Nat.le_of_ble_eq_true rfl)) rfl ?_
    show zzEv _ _ _ [.ref 46, .int l1, .int l2, .int (l3 + 1), .int l4] _ _ _
    refine ev_goto (t := 49) zo_181_221 rfl ?_
    exact hkl_49 l1 l2 (l3 + 1) J r h (.int l4) rfl
def F_X7_rides_159 (kl_49 : Int32 → Int32 → Int32 → zzJ → Option (zzJ)) (kl_57 : Int32 → Int32 → Int32 → Int32 → zzJ → Option (zzJ)) (l1 : Int32) (l2 : Int32) (l3 : Int32) (l4 : Int32) (t0 : Int32) (t1 : Int32) (J : zzJ) : Option (zzJ) := (if zzIx t1 8 then (if ((wI J 57 t1.toNatClampNeg t0).2 46 34) = (-1 : Int32) then kl_57 l1 l2 l3 (l4 + 1) (wI (wI J 57 t1.toNatClampNeg t0) 46 34 l4) else kl_57 l1 l2 l3 (l4 + 1) (wI (wI J 57 t1.toNatClampNeg t0) 46 34 ((wI J 57 t1.toNatClampNeg t0).2 46 34))) else none)
set_option maxRecDepth 100000 in
set_option maxHeartbeats 2000000 in
theorem G_X7_rides_159 {d : Nat} (kl_49 : Int32 → Int32 → Int32 → zzJ → Option (zzJ)) (kl_57 : Int32 → Int32 → Int32 → Int32 → zzJ → Option (zzJ)) (hkl_49 : ∀ (l1 : Int32) (l2 : Int32) (l3 : Int32) (J : zzJ) (r : zzJ), kl_49 l1 l2 l3 J = some r → ∀ (lv4 : Value) (hlv4 : lv4.category = 1), zzEv d 181 49 [.ref 46, .int l1, .int l2, .int l3, lv4] [] (zK J) (none, zK r)) (hkl_57 : ∀ (l1 : Int32) (l2 : Int32) (l3 : Int32) (l4 : Int32) (J : zzJ) (r : zzJ), kl_57 l1 l2 l3 l4 J = some r → zzEv d 181 57 [.ref 46, .int l1, .int l2, .int l3, .int l4] [] (zK J) (none, zK r)) (hd : 94 ≤ d) : ∀ (l1 : Int32) (l2 : Int32) (l3 : Int32) (l4 : Int32) (t0 : Int32) (t1 : Int32) (J : zzJ) (r : zzJ), F_X7_rides_159 kl_49 kl_57 l1 l2 l3 l4 t0 t1 J = some r → zzEv d 181 159 [.ref 46, .int l1, .int l2, .int l3, .int l4] [.int t0, .int t1, .ref 57] (zK J) (none, zK r) := by
  intro l1 l2 l3 l4 t0 t1 J r h
  unfold F_X7_rides_159 at h
  obtain ⟨c4, h⟩ := zz_chk h
  refine ev_iast zo_181_159 rfl c4 rfl ?_
  refine ev_aload_n zo_181_160 rfl rfl rfl rfl ?_
  refine ev_aload_n zo_181_161 rfl rfl rfl rfl ?_
  refine ev_getI zo_181_162 zf_181_296 (by decide) (Or.inl rfl) rfl rfl ?_
  refine ev_iconst (x := (-1)) zo_181_165 (by decide) rfl ?_
  by_cases c5 : ((wI J 57 t1.toNatClampNeg t0).2 46 34) = (-1 : Int32)
  · rw [if_pos c5] at h
    refine ev_cmp_f (t := 174) zo_181_166 rfl (zcm_nne c5) rfl ?_
    refine ev_iload zo_181_169 rfl rfl ?_
    refine ev_goto (t := 178) zo_181_171 rfl ?_
    refine ev_putI zo_181_178 zf_181_296 (by decide) rfl rfl rfl rfl ?_
    refine ev_iinc (v := 1) zo_181_181 rfl (by decide) (zz_set rfl (by decide) (Nat.le_of_ble_eq_true rfl)) rfl ?_
    show zzEv _ _ _ [.ref 46, .int l1, .int l2, .int l3, .int (l4 + 1)] _ _ _
    refine ev_goto (t := 57) zo_181_184 rfl ?_
    exact hkl_57 l1 l2 l3 (l4 + 1) (wI (wI J 57 t1.toNatClampNeg t0) 46 34 l4) r h
  rw [if_neg c5] at h
  refine ev_cmp_t (t := 174) zo_181_166 rfl (zcm_ne c5) ?_
  refine ev_aload_n zo_181_174 rfl rfl rfl rfl ?_
  refine ev_getI zo_181_175 zf_181_296 (by decide) (Or.inl rfl) rfl rfl ?_
  refine ev_putI zo_181_178 zf_181_296 (by decide) rfl rfl rfl rfl ?_
  refine ev_iinc (v := 1) zo_181_181 rfl (by decide) (zz_set rfl (by decide) (Nat.le_of_ble_eq_true rfl)) rfl ?_
  show zzEv _ _ _ [.ref 46, .int l1, .int l2, .int l3, .int (l4 + 1)] _ _ _
  refine ev_goto (t := 57) zo_181_184 rfl ?_
  exact hkl_57 l1 l2 l3 (l4 + 1) (wI (wI J 57 t1.toNatClampNeg t0) 46 34 ((wI J 57 t1.toNatClampNeg t0).2 46 34)) r h
def F_X7_rides_57 (kl_49 : Int32 → Int32 → Int32 → zzJ → Option (zzJ)) : Nat → Int32 → Int32 → Int32 → Int32 → zzJ → Option (zzJ)
  | 0, _, _, _, _, _ => none
  | n + 1, l1, l2, l3, l4, J => (if l4 < (J.2 46 14) then (if zzIx l4 8 then (Option.bind (F_X7_queasyOf l4 ((J.2 46 7) + l3) J) fun q8 => (if zzIx l4 8 then (if zzIx l4 8 then (if ((wI q8.2 55 l4.toNatClampNeg ((J.2 55 l4.toNatClampNeg) + q8.1)).2 46 8) < ((wI q8.2 55 l4.toNatClampNeg ((J.2 55 l4.toNatClampNeg) + q8.1)).2 55 l4.toNatClampNeg) then (if zzIx l4 8 then (if zzIx l4 8 then (if zzIx l4 8 then (if zzIx l4 8 then (if ((wI (wI (wI (wI q8.2 55 l4.toNatClampNeg ((J.2 55 l4.toNatClampNeg) + q8.1)) 55 l4.toNatClampNeg (0 : Int32)) 56 l4.toNatClampNeg (((wI (wI q8.2 55 l4.toNatClampNeg ((J.2 55 l4.toNatClampNeg) + q8.1)) 55 l4.toNatClampNeg (0 : Int32)).2 56 l4.toNatClampNeg) + (1 : Int32))) 46 33 (((wI (wI (wI q8.2 55 l4.toNatClampNeg ((J.2 55 l4.toNatClampNeg) + q8.1)) 55 l4.toNatClampNeg (0 : Int32)) 56 l4.toNatClampNeg (((wI (wI q8.2 55 l4.toNatClampNeg ((J.2 55 l4.toNatClampNeg) + q8.1)) 55 l4.toNatClampNeg (0 : Int32)).2 56 l4.toNatClampNeg) + (1 : Int32))).2 46 33) + (1 : Int32))).2 57 l4.toNatClampNeg) = (-1 : Int32) then F_X7_rides_159 kl_49 (F_X7_rides_57 kl_49 n) l1 l2 l3 l4 l3 l4 (wI (wI (wI (wI q8.2 55 l4.toNatClampNeg ((J.2 55 l4.toNatClampNeg) + q8.1)) 55 l4.toNatClampNeg (0 : Int32)) 56 l4.toNatClampNeg (((wI (wI q8.2 55 l4.toNatClampNeg ((J.2 55 l4.toNatClampNeg) + q8.1)) 55 l4.toNatClampNeg (0 : Int32)).2 56 l4.toNatClampNeg) + (1 : Int32))) 46 33 (((wI (wI (wI q8.2 55 l4.toNatClampNeg ((J.2 55 l4.toNatClampNeg) + q8.1)) 55 l4.toNatClampNeg (0 : Int32)) 56 l4.toNatClampNeg (((wI (wI q8.2 55 l4.toNatClampNeg ((J.2 55 l4.toNatClampNeg) + q8.1)) 55 l4.toNatClampNeg (0 : Int32)).2 56 l4.toNatClampNeg) + (1 : Int32))).2 46 33) + (1 : Int32))) else (if zzIx l4 8 then F_X7_rides_159 kl_49 (F_X7_rides_57 kl_49 n) l1 l2 l3 l4 ((wI (wI (wI (wI q8.2 55 l4.toNatClampNeg ((J.2 55 l4.toNatClampNeg) + q8.1)) 55 l4.toNatClampNeg (0 : Int32)) 56 l4.toNatClampNeg (((wI (wI q8.2 55 l4.toNatClampNeg ((J.2 55 l4.toNatClampNeg) + q8.1)) 55 l4.toNatClampNeg (0 : Int32)).2 56 l4.toNatClampNeg) + (1 : Int32))) 46 33 (((wI (wI (wI q8.2 55 l4.toNatClampNeg ((J.2 55 l4.toNatClampNeg) + q8.1)) 55 l4.toNatClampNeg (0 : Int32)) 56 l4.toNatClampNeg (((wI (wI q8.2 55 l4.toNatClampNeg ((J.2 55 l4.toNatClampNeg) + q8.1)) 55 l4.toNatClampNeg (0 : Int32)).2 56 l4.toNatClampNeg) + (1 : Int32))).2 46 33) + (1 : Int32))).2 57 l4.toNatClampNeg) l4 (wI (wI (wI (wI q8.2 55 l4.toNatClampNeg ((J.2 55 l4.toNatClampNeg) + q8.1)) 55 l4.toNatClampNeg (0 : Int32)) 56 l4.toNatClampNeg (((wI (wI q8.2 55 l4.toNatClampNeg ((J.2 55 l4.toNatClampNeg) + q8.1)) 55 l4.toNatClampNeg (0 : Int32)).2 56 l4.toNatClampNeg) + (1 : Int32))) 46 33 (((wI (wI (wI q8.2 55 l4.toNatClampNeg ((J.2 55 l4.toNatClampNeg) + q8.1)) 55 l4.toNatClampNeg (0 : Int32)) 56 l4.toNatClampNeg (((wI (wI q8.2 55 l4.toNatClampNeg ((J.2 55 l4.toNatClampNeg) + q8.1)) 55 l4.toNatClampNeg (0 : Int32)).2 56 l4.toNatClampNeg) + (1 : Int32))).2 46 33) + (1 : Int32))) else none)) else none) else none) else none) else none) else F_X7_rides_57 kl_49 n l1 l2 l3 (l4 + 1) (wI q8.2 55 l4.toNatClampNeg ((J.2 55 l4.toNatClampNeg) + q8.1))) else none) else none)) else none) else F_X7_rides_190 kl_49 4096 l1 l2 l3 (0 : Int32) J)
set_option maxRecDepth 100000 in
set_option maxHeartbeats 2000000 in
theorem G_X7_rides_57 {d : Nat} (kl_49 : Int32 → Int32 → Int32 → zzJ → Option (zzJ)) (hkl_49 : ∀ (l1 : Int32) (l2 : Int32) (l3 : Int32) (J : zzJ) (r : zzJ), kl_49 l1 l2 l3 J = some r → ∀ (lv4 : Value) (hlv4 : lv4.category = 1), zzEv d 181 49 [.ref 46, .int l1, .int l2, .int l3, lv4] [] (zK J) (none, zK r)) (hd : 94 ≤ d) : ∀ (n : Nat) (l1 : Int32) (l2 : Int32) (l3 : Int32) (l4 : Int32) (J : zzJ) (r : zzJ), F_X7_rides_57 kl_49 n l1 l2 l3 l4 J = some r → zzEv d 181 57 [.ref 46, .int l1, .int l2, .int l3, .int l4] [] (zK J) (none, zK r) := by
  intro n
  induction n with
  | zero => intro l1 l2 l3 l4 J r h; simp [F_X7_rides_57] at h
  | succ n ih =>
    intro l1 l2 l3 l4 J r h
    rw [F_X7_rides_57] at h
    refine ev_iload zo_181_57 rfl rfl ?_
    refine ev_aload_n zo_181_59 rfl rfl rfl rfl ?_
    refine ev_getI zo_181_60 zf_181_85 (by decide) (Or.inl rfl) rfl rfl ?_
    by_cases c6 : l4 < (J.2 46 14)
    · rw [if_pos c6] at h
      refine ev_cmp_f (t := 187) zo_181_63 rfl (zcm_nge c6) rfl ?_
      refine ev_aload_n zo_181_66 rfl rfl rfl rfl ?_
      refine ev_getR zo_181_67 zf_181_41 (by decide) rfl rfl rfl rfl ?_
      refine ev_iload zo_181_70 rfl rfl ?_
      refine ev_dup2 zo_181_72 rfl rfl rfl ?_
      obtain ⟨c7, h⟩ := zz_chk h
      refine ev_iald zo_181_73 rfl c7 rfl ?_
      refine ev_aload_n zo_181_74 rfl rfl rfl rfl ?_
      refine ev_iload zo_181_75 rfl rfl ?_
      refine ev_aload_n zo_181_77 rfl rfl rfl rfl ?_
      refine ev_getI zo_181_78 zf_181_118 (by decide) (Or.inl rfl) rfl rfl ?_
      refine ev_iload_n zo_181_81 rfl rfl rfl ?_
      refine ev_iadd zo_181_82 rfl ?_
      obtain ⟨q8, hq8, h⟩ := zz_bd h
      refine ev_cV (as := [.int ((J.2 46 7) + l3), .int l4]) (lsn := [.ref 46, .int l4, .int ((J.2 46 7) + l3), zzU, zzU, zzU, zzU]) (by omega) zo_181_83 zl_181_137 (by rw [zm_176]; rfl) (by rw [zm_176]; exact rfl) (by rw [zm_176]; decide) (by unfold zzIn; rw [zm_176]; rfl) (by rw [zm_176]; exact Nat.le_of_ble_eq_true rfl) (Nat.le_of_ble_eq_true rfl) (G_X7_queasyOf (by omega) l4 ((J.2 46 7) + l3) J q8 hq8) rfl ?_
      show zzEv _ _ _ _ [.int q8.1, .int (J.2 55 l4.toNatClampNeg), .int l4, .ref 55] _ _
      refine ev_iadd zo_181_86 rfl ?_
      obtain ⟨c9, h⟩ := zz_chk h
      refine ev_iast zo_181_87 rfl c9 rfl ?_
      refine ev_aload_n zo_181_88 rfl rfl rfl rfl ?_
      refine ev_getR zo_181_89 zf_181_41 (by decide) rfl rfl rfl rfl ?_
      refine ev_iload zo_181_92 rfl rfl ?_
      obtain ⟨c10, h⟩ := zz_chk h
      refine ev_iald zo_181_94 rfl c10 rfl ?_
      refine ev_aload_n zo_181_95 rfl rfl rfl rfl ?_
      refine ev_getI zo_181_96 zf_181_23 (by decide) (Or.inl rfl) rfl rfl ?_
      by_cases c11 : ((wI q8.2 55 l4.toNatClampNeg ((J.2 55 l4.toNatClampNeg) + q8.1)).2 46 8) < ((wI q8.2 55 l4.toNatClampNeg ((J.2 55 l4.toNatClampNeg) + q8.1)).2 55 l4.toNatClampNeg)
      · rw [if_pos c11] at h
        refine ev_cmp_f (t := 181) zo_181_99 rfl (zcm_nle c11) rfl ?_
        refine ev_aload_n zo_181_102 rfl rfl rfl rfl ?_
        refine ev_getR zo_181_103 zf_181_41 (by decide) rfl rfl rfl rfl ?_
        refine ev_iload zo_181_106 rfl rfl ?_
        refine ev_iconst (x := 0) zo_181_108 (by decide) rfl ?_
        obtain ⟨c12, h⟩ := zz_chk h
        refine ev_iast zo_181_109 rfl c12 rfl ?_
        refine ev_aload_n zo_181_110 rfl rfl rfl rfl ?_
        refine ev_getR zo_181_111 zf_181_44 (by decide) rfl rfl rfl rfl ?_
        refine ev_iload zo_181_114 rfl rfl ?_
        refine ev_dup2 zo_181_116 rfl rfl rfl ?_
        obtain ⟨c13, h⟩ := zz_chk h
        refine ev_iald zo_181_117 rfl c13 rfl ?_
        refine ev_iconst (x := 1) zo_181_118 (by decide) rfl ?_
        refine ev_iadd zo_181_119 rfl ?_
        obtain ⟨c14, h⟩ := zz_chk h
        refine ev_iast zo_181_120 rfl c14 rfl ?_
        refine ev_aload_n zo_181_121 rfl rfl rfl rfl ?_
        refine ev_dup zo_181_122 rfl rfl ?_
        refine ev_getI zo_181_123 zf_181_293 (by decide) (Or.inl rfl) rfl rfl ?_
        refine ev_iconst (x := 1) zo_181_126 (by decide) rfl ?_
        refine ev_iadd zo_181_127 rfl ?_
        refine ev_putI zo_181_128 zf_181_293 (by decide) rfl rfl rfl rfl ?_
        refine ev_aload_n zo_181_131 rfl rfl rfl rfl ?_
        refine ev_getR zo_181_132 zf_181_47 (by decide) rfl rfl rfl rfl ?_
        refine ev_iload zo_181_135 rfl rfl ?_
        refine ev_aload_n zo_181_137 rfl rfl rfl rfl ?_
        refine ev_getR zo_181_138 zf_181_47 (by decide) rfl rfl rfl rfl ?_
        refine ev_iload zo_181_141 rfl rfl ?_
        obtain ⟨c15, h⟩ := zz_chk h
        refine ev_iald zo_181_143 rfl c15 rfl ?_
        refine ev_iconst (x := (-1)) zo_181_144 (by decide) rfl ?_
        by_cases c16 : ((wI (wI (wI (wI q8.2 55 l4.toNatClampNeg ((J.2 55 l4.toNatClampNeg) + q8.1)) 55 l4.toNatClampNeg (0 : Int32)) 56 l4.toNatClampNeg (((wI (wI q8.2 55 l4.toNatClampNeg ((J.2 55 l4.toNatClampNeg) + q8.1)) 55 l4.toNatClampNeg (0 : Int32)).2 56 l4.toNatClampNeg) + (1 : Int32))) 46 33 (((wI (wI (wI q8.2 55 l4.toNatClampNeg ((J.2 55 l4.toNatClampNeg) + q8.1)) 55 l4.toNatClampNeg (0 : Int32)) 56 l4.toNatClampNeg (((wI (wI q8.2 55 l4.toNatClampNeg ((J.2 55 l4.toNatClampNeg) + q8.1)) 55 l4.toNatClampNeg (0 : Int32)).2 56 l4.toNatClampNeg) + (1 : Int32))).2 46 33) + (1 : Int32))).2 57 l4.toNatClampNeg) = (-1 : Int32)
        · rw [if_pos c16] at h
          refine ev_cmp_f (t := 152) zo_181_145 rfl (zcm_nne c16) rfl ?_
          refine ev_iload_n zo_181_148 rfl rfl rfl ?_
          refine ev_goto (t := 159) zo_181_149 rfl ?_
          exact G_X7_rides_159 kl_49 (F_X7_rides_57 kl_49 n) hkl_49 ih hd l1 l2 l3 l4 l3 l4 (wI (wI (wI (wI q8.2 55 l4.toNatClampNeg ((J.2 55 l4.toNatClampNeg) + q8.1)) 55 l4.toNatClampNeg (0 : Int32)) 56 l4.toNatClampNeg (((wI (wI q8.2 55 l4.toNatClampNeg ((J.2 55 l4.toNatClampNeg) + q8.1)) 55 l4.toNatClampNeg (0 : Int32)).2 56 l4.toNatClampNeg) + (1 : Int32))) 46 33 (((wI (wI (wI q8.2 55 l4.toNatClampNeg ((J.2 55 l4.toNatClampNeg) + q8.1)) 55 l4.toNatClampNeg (0 : Int32)) 56 l4.toNatClampNeg (((wI (wI q8.2 55 l4.toNatClampNeg ((J.2 55 l4.toNatClampNeg) + q8.1)) 55 l4.toNatClampNeg (0 : Int32)).2 56 l4.toNatClampNeg) + (1 : Int32))).2 46 33) + (1 : Int32))) r h
        rw [if_neg c16] at h
        refine ev_cmp_t (t := 152) zo_181_145 rfl (zcm_ne c16) ?_
        refine ev_aload_n zo_181_152 rfl rfl rfl rfl ?_
        refine ev_getR zo_181_153 zf_181_47 (by decide) rfl rfl rfl rfl ?_
        refine ev_iload zo_181_156 rfl rfl ?_
        obtain ⟨c17, h⟩ := zz_chk h
        refine ev_iald zo_181_158 rfl c17 rfl ?_
        exact G_X7_rides_159 kl_49 (F_X7_rides_57 kl_49 n) hkl_49 ih hd l1 l2 l3 l4 ((wI (wI (wI (wI q8.2 55 l4.toNatClampNeg ((J.2 55 l4.toNatClampNeg) + q8.1)) 55 l4.toNatClampNeg (0 : Int32)) 56 l4.toNatClampNeg (((wI (wI q8.2 55 l4.toNatClampNeg ((J.2 55 l4.toNatClampNeg) + q8.1)) 55 l4.toNatClampNeg (0 : Int32)).2 56 l4.toNatClampNeg) + (1 : Int32))) 46 33 (((wI (wI (wI q8.2 55 l4.toNatClampNeg ((J.2 55 l4.toNatClampNeg) + q8.1)) 55 l4.toNatClampNeg (0 : Int32)) 56 l4.toNatClampNeg (((wI (wI q8.2 55 l4.toNatClampNeg ((J.2 55 l4.toNatClampNeg) + q8.1)) 55 l4.toNatClampNeg (0 : Int32)).2 56 l4.toNatClampNeg) + (1 : Int32))).2 46 33) + (1 : Int32))).2 57 l4.toNatClampNeg) l4 (wI (wI (wI (wI q8.2 55 l4.toNatClampNeg ((J.2 55 l4.toNatClampNeg) + q8.1)) 55 l4.toNatClampNeg (0 : Int32)) 56 l4.toNatClampNeg (((wI (wI q8.2 55 l4.toNatClampNeg ((J.2 55 l4.toNatClampNeg) + q8.1)) 55 l4.toNatClampNeg (0 : Int32)).2 56 l4.toNatClampNeg) + (1 : Int32))) 46 33 (((wI (wI (wI q8.2 55 l4.toNatClampNeg ((J.2 55 l4.toNatClampNeg) + q8.1)) 55 l4.toNatClampNeg (0 : Int32)) 56 l4.toNatClampNeg (((wI (wI q8.2 55 l4.toNatClampNeg ((J.2 55 l4.toNatClampNeg) + q8.1)) 55 l4.toNatClampNeg (0 : Int32)).2 56 l4.toNatClampNeg) + (1 : Int32))).2 46 33) + (1 : Int32))) r h
      rw [if_neg c11] at h
      refine ev_cmp_t (t := 181) zo_181_99 rfl (zcm_le c11) ?_
      refine ev_iinc (v := 1) zo_181_181 rfl (by decide) (zz_set rfl (by decide) (Nat.le_of_ble_eq_true rfl)) rfl ?_
      show zzEv _ _ _ [.ref 46, .int l1, .int l2, .int l3, .int (l4 + 1)] _ _ _
      refine ev_goto (t := 57) zo_181_184 rfl ?_
      exact ih l1 l2 l3 (l4 + 1) (wI q8.2 55 l4.toNatClampNeg ((J.2 55 l4.toNatClampNeg) + q8.1)) r h
    rw [if_neg c6] at h
    refine ev_cmp_t (t := 187) zo_181_63 rfl (zcm_ge c6) ?_
    refine ev_iconst (x := 0) zo_181_187 (by decide) rfl ?_
    refine ev_istore zo_181_188 (zz_set rfl (by decide) (Nat.le_of_ble_eq_true rfl)) rfl ?_
    show zzEv _ _ _ [.ref 46, .int l1, .int l2, .int l3, .int (0 : Int32)] _ _ _
    exact G_X7_rides_190 kl_49 hkl_49 hd 4096 l1 l2 l3 (0 : Int32) J r h
def F_X7_rides_49 : Nat → Int32 → Int32 → Int32 → zzJ → Option (zzJ)
  | 0, _, _, _, _ => none
  | n + 1, l1, l2, l3, J => (if l3 < l1 then F_X7_rides_57 (F_X7_rides_49 n) 4096 l1 l2 l3 (0 : Int32) J else some J)
set_option maxRecDepth 100000 in
set_option maxHeartbeats 2000000 in
theorem G_X7_rides_49 {d : Nat} (hd : 94 ≤ d) : ∀ (n : Nat) (l1 : Int32) (l2 : Int32) (l3 : Int32) (J : zzJ) (r : zzJ), F_X7_rides_49 n l1 l2 l3 J = some r → ∀ (lv4 : Value) (hlv4 : lv4.category = 1), zzEv d 181 49 [.ref 46, .int l1, .int l2, .int l3, lv4] [] (zK J) (none, zK r) := by
  intro n
  induction n with
  | zero => intro l1 l2 l3 J r h; simp [F_X7_rides_49] at h
  | succ n ih =>
    intro l1 l2 l3 J r h lv4 hlv4
    rw [F_X7_rides_49] at h
    refine ev_iload_n zo_181_49 rfl rfl rfl ?_
    refine ev_iload_n zo_181_50 rfl rfl rfl ?_
    by_cases c18 : l3 < l1
    · rw [if_pos c18] at h
      refine ev_cmp_f (t := 224) zo_181_51 rfl (zcm_nge c18) rfl ?_
      refine ev_iconst (x := 0) zo_181_54 (by decide) rfl ?_
      refine ev_istore zo_181_55 (zz_set rfl (by decide) (Nat.le_of_ble_eq_true rfl)) rfl ?_
      show zzEv _ _ _ [.ref 46, .int l1, .int l2, .int l3, .int (0 : Int32)] _ _ _
      exact G_X7_rides_57 (F_X7_rides_49 n) ih hd 4096 l1 l2 l3 (0 : Int32) J r h
    rw [if_neg c18] at h
    refine ev_cmp_t (t := 224) zo_181_51 rfl (zcm_ge c18) ?_
    obtain rfl := Option.some.inj h
    exact ev_retV zo_181_224 zr_181
def F_X7_rides_12 : Nat → Int32 → Int32 → Int32 → zzJ → Option (zzJ)
  | 0, _, _, _, _ => none
  | n + 1, l1, l2, l3, J => (if l3 < (J.2 46 14) then (if zzIx l3 8 then (if zzIx l3 8 then (if zzIx l3 8 then F_X7_rides_12 n l1 l2 (l3 + 1) (wI (wI (wI J 55 l3.toNatClampNeg (0 : Int32)) 56 l3.toNatClampNeg (0 : Int32)) 57 l3.toNatClampNeg (-1 : Int32)) else none) else none) else none) else F_X7_rides_49 4096 l1 l2 (0 : Int32) J)
set_option maxRecDepth 100000 in
set_option maxHeartbeats 2000000 in
theorem G_X7_rides_12 {d : Nat} (hd : 94 ≤ d) : ∀ (n : Nat) (l1 : Int32) (l2 : Int32) (l3 : Int32) (J : zzJ) (r : zzJ), F_X7_rides_12 n l1 l2 l3 J = some r → zzEv d 181 12 [.ref 46, .int l1, .int l2, .int l3, zzU] [] (zK J) (none, zK r) := by
  intro n
  induction n with
  | zero => intro l1 l2 l3 J r h; simp [F_X7_rides_12] at h
  | succ n ih =>
    intro l1 l2 l3 J r h
    rw [F_X7_rides_12] at h
    refine ev_iload_n zo_181_12 rfl rfl rfl ?_
    refine ev_aload_n zo_181_13 rfl rfl rfl rfl ?_
    refine ev_getI zo_181_14 zf_181_85 (by decide) (Or.inl rfl) rfl rfl ?_
    by_cases c19 : l3 < (J.2 46 14)
    · rw [if_pos c19] at h
      refine ev_cmp_f (t := 47) zo_181_17 rfl (zcm_nge c19) rfl ?_
      refine ev_aload_n zo_181_20 rfl rfl rfl rfl ?_
      refine ev_getR zo_181_21 zf_181_41 (by decide) rfl rfl rfl rfl ?_
      refine ev_iload_n zo_181_24 rfl rfl rfl ?_
      refine ev_iconst (x := 0) zo_181_25 (by decide) rfl ?_
      obtain ⟨c20, h⟩ := zz_chk h
      refine ev_iast zo_181_26 rfl c20 rfl ?_
      refine ev_aload_n zo_181_27 rfl rfl rfl rfl ?_
      refine ev_getR zo_181_28 zf_181_44 (by decide) rfl rfl rfl rfl ?_
      refine ev_iload_n zo_181_31 rfl rfl rfl ?_
      refine ev_iconst (x := 0) zo_181_32 (by decide) rfl ?_
      obtain ⟨c21, h⟩ := zz_chk h
      refine ev_iast zo_181_33 rfl c21 rfl ?_
      refine ev_aload_n zo_181_34 rfl rfl rfl rfl ?_
      refine ev_getR zo_181_35 zf_181_47 (by decide) rfl rfl rfl rfl ?_
      refine ev_iload_n zo_181_38 rfl rfl rfl ?_
      refine ev_iconst (x := (-1)) zo_181_39 (by decide) rfl ?_
      obtain ⟨c22, h⟩ := zz_chk h
      refine ev_iast zo_181_40 rfl c22 rfl ?_
      refine ev_iinc (v := 1) zo_181_41 rfl (by decide) (zz_set rfl (by decide) (Nat.le_of_ble_eq_true rfl)) rfl ?_
      show zzEv _ _ _ [.ref 46, .int l1, .int l2, .int (l3 + 1), zzU] _ _ _
      refine ev_goto (t := 12) zo_181_44 rfl ?_
      exact ih l1 l2 (l3 + 1) (wI (wI (wI J 55 l3.toNatClampNeg (0 : Int32)) 56 l3.toNatClampNeg (0 : Int32)) 57 l3.toNatClampNeg (-1 : Int32)) r h
    rw [if_neg c19] at h
    refine ev_cmp_t (t := 47) zo_181_17 rfl (zcm_ge c19) ?_
    refine ev_iconst (x := 0) zo_181_47 (by decide) rfl ?_
    refine ev_istore_n zo_181_48 rfl (zz_set rfl (by decide) (Nat.le_of_ble_eq_true rfl)) rfl ?_
    show zzEv _ _ _ [.ref 46, .int l1, .int l2, .int (0 : Int32), zzU] _ _ _
    exact G_X7_rides_49 hd 4096 l1 l2 (0 : Int32) J r h (zzU) rfl
def F_X7_rides (x1 : Int32) (x2 : Int32) (J : zzJ) : Option (zzJ) := F_X7_rides_12 4096 x1 x2 (0 : Int32) (wI (wI J 46 33 (0 : Int32)) 46 34 (-1 : Int32))
set_option maxRecDepth 100000 in
set_option maxHeartbeats 2000000 in
theorem G_X7_rides {d : Nat} (hd : 94 ≤ d) (x1 : Int32) (x2 : Int32) (J : zzJ) (r : zzJ) (h : F_X7_rides x1 x2 J = some r) : zzEv d 181 0 [.ref 46, .int x1, .int x2, zzU, zzU] [] (zK J) (none, zK r) := by
  unfold F_X7_rides at h
  refine ev_aload_n zo_181_0 rfl rfl rfl rfl ?_
  refine ev_iconst (x := 0) zo_181_1 (by decide) rfl ?_
  refine ev_putI zo_181_2 zf_181_293 (by decide) rfl rfl rfl rfl ?_
  refine ev_aload_n zo_181_5 rfl rfl rfl rfl ?_
  refine ev_iconst (x := (-1)) zo_181_6 (by decide) rfl ?_
  refine ev_putI zo_181_7 zf_181_296 (by decide) rfl rfl rfl rfl ?_
  refine ev_iconst (x := 0) zo_181_10 (by decide) rfl ?_
  refine ev_istore_n zo_181_11 rfl (zz_set rfl (by decide) (Nat.le_of_ble_eq_true rfl)) rfl ?_
  show zzEv _ _ _ [.ref 46, .int x1, .int x2, .int (0 : Int32), zzU] _ _ _
  exact G_X7_rides_12 hd 4096 x1 x2 (0 : Int32) (wI (wI J 46 33 (0 : Int32)) 46 34 (-1 : Int32)) r h
/-! X7_ride -/
def F_X7_ride_60 (l1 : Int32) (l2 : Int32) (J : zzJ) : Option (Int32 × zzJ) := (Option.bind (F_X7_rides l1 (-1 : Int32) J) fun q1 => (if l2 = (0 : Int32) then some ((q1.2 46 33), q1) else (if l2 = (1 : Int32) then some ((q1.2 46 34), q1) else (if l2 < (20 : Int32) then (if zzIx (l2 - (10 : Int32)) 8 then some ((q1.2 57 (l2 - (10 : Int32)).toNatClampNeg), q1) else none) else (if zzIx (l2 - (20 : Int32)) 8 then some ((q1.2 56 (l2 - (20 : Int32)).toNatClampNeg), q1) else none)))))
set_option maxRecDepth 100000 in
set_option maxHeartbeats 2000000 in
theorem G_X7_ride_60 {d : Nat} (hd : 95 ≤ d) : ∀ (l1 : Int32) (l2 : Int32) (J : zzJ) (r : Int32 × zzJ), F_X7_ride_60 l1 l2 J = some r → ∀ (lv3 : Value) (hlv3 : lv3.category = 1), zzEv d 182 60 [.ref 46, .int l1, .int l2, lv3] [] (zK J) (some (.int r.1), zK r.2) := by
  intro l1 l2 J r h lv3 hlv3
  unfold F_X7_ride_60 at h
  refine ev_aload_n zo_182_60 rfl rfl rfl rfl ?_
  refine ev_iload_n zo_182_61 rfl rfl rfl ?_
  refine ev_iconst (x := (-1)) zo_182_62 (by decide) rfl ?_
  obtain ⟨q1, hq1, h⟩ := zz_bd h
  refine ev_cV (as := [.int (-1 : Int32), .int l1]) (lsn := [.ref 46, .int l1, .int (-1 : Int32), zzU, zzU]) (by omega) zo_182_63 zl_182_301 (by rw [zm_181]; rfl) (by rw [zm_181]; exact rfl) (by rw [zm_181]; decide) (by unfold zzIn; rw [zm_181]; rfl) (by rw [zm_181]; exact Nat.le_of_ble_eq_true rfl) (Nat.le_of_ble_eq_true rfl) (G_X7_rides (by omega) l1 (-1 : Int32) J q1 hq1) rfl ?_
  show zzEv _ _ _ _ [] _ _
  refine ev_iload_n zo_182_66 rfl rfl rfl ?_
  by_cases c2 : l2 = (0 : Int32)
  · rw [if_pos c2] at h
    refine ev_if_f (t := 77) zo_182_67 rfl (zcm_nne c2) rfl ?_
    refine ev_aload_n zo_182_70 rfl rfl rfl rfl ?_
    refine ev_getI zo_182_71 zf_182_293 (by decide) (Or.inl rfl) rfl rfl ?_
    refine ev_goto (t := 116) zo_182_74 rfl ?_
    obtain rfl := Option.some.inj h
    exact ev_retI zo_182_116 zr_182
  rw [if_neg c2] at h
  refine ev_if_t (t := 77) zo_182_67 rfl (zcm_ne c2) ?_
  refine ev_iload_n zo_182_77 rfl rfl rfl ?_
  refine ev_iconst (x := 1) zo_182_78 (by decide) rfl ?_
  by_cases c3 : l2 = (1 : Int32)
  · rw [if_pos c3] at h
    refine ev_cmp_f (t := 89) zo_182_79 rfl (zcm_nne c3) rfl ?_
    refine ev_aload_n zo_182_82 rfl rfl rfl rfl ?_
    refine ev_getI zo_182_83 zf_182_296 (by decide) (Or.inl rfl) rfl rfl ?_
    refine ev_goto (t := 116) zo_182_86 rfl ?_
    obtain rfl := Option.some.inj h
    exact ev_retI zo_182_116 zr_182
  rw [if_neg c3] at h
  refine ev_cmp_t (t := 89) zo_182_79 rfl (zcm_ne c3) ?_
  refine ev_iload_n zo_182_89 rfl rfl rfl ?_
  refine ev_bipush (x := 20) zo_182_90 (by decide) rfl ?_
  by_cases c4 : l2 < (20 : Int32)
  · rw [if_pos c4] at h
    refine ev_cmp_f (t := 107) zo_182_92 rfl (zcm_nge c4) rfl ?_
    refine ev_aload_n zo_182_95 rfl rfl rfl rfl ?_
    refine ev_getR zo_182_96 zf_182_47 (by decide) rfl rfl rfl rfl ?_
    refine ev_iload_n zo_182_99 rfl rfl rfl ?_
    refine ev_bipush (x := 10) zo_182_100 (by decide) rfl ?_
    refine ev_isub zo_182_102 rfl ?_
    obtain ⟨c6, h⟩ := zz_chk h
    refine ev_iald zo_182_103 rfl c6 rfl ?_
    refine ev_goto (t := 116) zo_182_104 rfl ?_
    obtain rfl := Option.some.inj h
    exact ev_retI zo_182_116 zr_182
  rw [if_neg c4] at h
  refine ev_cmp_t (t := 107) zo_182_92 rfl (zcm_ge c4) ?_
  refine ev_aload_n zo_182_107 rfl rfl rfl rfl ?_
  refine ev_getR zo_182_108 zf_182_44 (by decide) rfl rfl rfl rfl ?_
  refine ev_iload_n zo_182_111 rfl rfl rfl ?_
  refine ev_bipush (x := 20) zo_182_112 (by decide) rfl ?_
  refine ev_isub zo_182_114 rfl ?_
  obtain ⟨c5, h⟩ := zz_chk h
  refine ev_iald zo_182_115 rfl c5 rfl ?_
  obtain rfl := Option.some.inj h
  exact ev_retI zo_182_116 zr_182
def F_X7_ride_30 (l1 : Int32) (l2 : Int32) (t0 : Int32) (J : zzJ) : Option (Int32 × zzJ) := (Option.bind (F_X7_in l1.toInt64 (0 : Int64) (60 : Int64) J) fun q7 => (if q7.1 = (0 : Int32) then some ((-2 : Int32), q7.2) else (Option.bind (F_X7_in l2.toInt64 (0 : Int64) (1 : Int64) q7.2) fun q9 => (if q9.1 = (0 : Int32) then (if t0 = (0 : Int32) then some ((-2 : Int32), q9.2) else F_X7_ride_60 l1 l2 q9.2) else F_X7_ride_60 l1 l2 q9.2))))
set_option maxRecDepth 100000 in
set_option maxHeartbeats 2000000 in
theorem G_X7_ride_30 {d : Nat} (hd : 95 ≤ d) : ∀ (l1 : Int32) (l2 : Int32) (t0 : Int32) (J : zzJ) (r : Int32 × zzJ), F_X7_ride_30 l1 l2 t0 J = some r → zzEv d 182 30 [.ref 46, .int l1, .int l2, zzU] [.int t0] (zK J) (some (.int r.1), zK r.2) := by
  intro l1 l2 t0 J r h
  unfold F_X7_ride_30 at h
  refine ev_istore_n zo_182_30 rfl (zz_set rfl (by decide) (Nat.le_of_ble_eq_true rfl)) rfl ?_
  show zzEv _ _ _ [.ref 46, .int l1, .int l2, .int t0] _ _ _
  refine ev_iload_n zo_182_31 rfl rfl rfl ?_
  refine ev_i2l zo_182_32 rfl ?_
  refine ev_lconst (x := 0) zo_182_33 (by decide) rfl ?_
  refine ev_ldc2 zo_182_34 zc_182_253 rfl ?_
  obtain ⟨q7, hq7, h⟩ := zz_bd h
  refine ev_cS (as := [.long (60 : Int64), .long (0 : Int64), .long l1.toInt64]) (lsn := [.long l1.toInt64, zzU, .long (0 : Int64), zzU, .long (60 : Int64), zzU]) (by omega) zo_182_37 zl_182_88 (by decide) (by rw [zm_136]; rfl) (by unfold zzIn; rw [zm_136]; rfl) (by rw [zm_136]; exact Nat.le_of_ble_eq_true rfl) (Nat.le_of_ble_eq_true rfl) (G_X7_in (by omega) l1.toInt64 (0 : Int64) (60 : Int64) J q7 hq7) rfl ?_
  show zzEv _ _ _ _ [.int q7.1] _ _
  by_cases c8 : q7.1 = (0 : Int32)
  · rw [if_pos c8] at h
    refine ev_if_t (t := 57) zo_182_40 rfl (zcm_eq c8) ?_
    refine ev_bipush (x := (-2)) zo_182_57 (by decide) rfl ?_
    obtain rfl := Option.some.inj h
    exact ev_retI zo_182_59 zr_182
  rw [if_neg c8] at h
  refine ev_if_f (t := 57) zo_182_40 rfl (zcm_neq c8) rfl ?_
  refine ev_iload_n zo_182_43 rfl rfl rfl ?_
  refine ev_i2l zo_182_44 rfl ?_
  refine ev_lconst (x := 0) zo_182_45 (by decide) rfl ?_
  refine ev_lconst (x := 1) zo_182_46 (by decide) rfl ?_
  obtain ⟨q9, hq9, h⟩ := zz_bd h
  refine ev_cS (as := [.long (1 : Int64), .long (0 : Int64), .long l2.toInt64]) (lsn := [.long l2.toInt64, zzU, .long (0 : Int64), zzU, .long (1 : Int64), zzU]) (by omega) zo_182_47 zl_182_88 (by decide) (by rw [zm_136]; rfl) (by unfold zzIn; rw [zm_136]; rfl) (by rw [zm_136]; exact Nat.le_of_ble_eq_true rfl) (Nat.le_of_ble_eq_true rfl) (G_X7_in (by omega) l2.toInt64 (0 : Int64) (1 : Int64) q7.2 q9 hq9) rfl ?_
  show zzEv _ _ _ _ [.int q9.1] _ _
  by_cases c10 : q9.1 = (0 : Int32)
  · rw [if_pos c10] at h
    refine ev_if_f (t := 60) zo_182_50 rfl (zcm_nne c10) rfl ?_
    refine ev_iload_n zo_182_53 rfl rfl rfl ?_
    by_cases c11 : t0 = (0 : Int32)
    · rw [if_pos c11] at h
      refine ev_if_f (t := 60) zo_182_54 rfl (zcm_nne c11) rfl ?_
      refine ev_bipush (x := (-2)) zo_182_57 (by decide) rfl ?_
      obtain rfl := Option.some.inj h
      exact ev_retI zo_182_59 zr_182
    rw [if_neg c11] at h
    refine ev_if_t (t := 60) zo_182_54 rfl (zcm_ne c11) ?_
    exact G_X7_ride_60 hd l1 l2 q9.2 r h (.int t0) rfl
  rw [if_neg c10] at h
  refine ev_if_t (t := 60) zo_182_50 rfl (zcm_ne c10) ?_
  exact G_X7_ride_60 hd l1 l2 q9.2 r h (.int t0) rfl
def F_X7_ride_29 (l1 : Int32) (l2 : Int32) (J : zzJ) : Option (Int32 × zzJ) := F_X7_ride_30 l1 l2 (0 : Int32) J
set_option maxRecDepth 100000 in
set_option maxHeartbeats 2000000 in
theorem G_X7_ride_29 {d : Nat} (hd : 95 ≤ d) : ∀ (l1 : Int32) (l2 : Int32) (J : zzJ) (r : Int32 × zzJ), F_X7_ride_29 l1 l2 J = some r → zzEv d 182 29 [.ref 46, .int l1, .int l2, zzU] [] (zK J) (some (.int r.1), zK r.2) := by
  intro l1 l2 J r h
  unfold F_X7_ride_29 at h
  refine ev_iconst (x := 0) zo_182_29 (by decide) rfl ?_
  exact G_X7_ride_30 hd l1 l2 (0 : Int32) J r h
def F_X7_ride (x1 : Int32) (x2 : Int32) (J : zzJ) : Option (Int32 × zzJ) := (Option.bind (F_X7_in x2.toInt64 (10 : Int64) (29 : Int64) J) fun q12 => (if q12.1 = (0 : Int32) then F_X7_ride_29 x1 x2 q12.2 else (Option.bind (F_X7_isOne (zRem x2 (10 : Int32)) q12.2) fun q14 => (if q14.1 = (0 : Int32) then F_X7_ride_29 x1 x2 q14.2 else F_X7_ride_30 x1 x2 (1 : Int32) q14.2))))
set_option maxRecDepth 100000 in
set_option maxHeartbeats 2000000 in
theorem G_X7_ride {d : Nat} (hd : 95 ≤ d) (x1 : Int32) (x2 : Int32) (J : zzJ) (r : Int32 × zzJ) (h : F_X7_ride x1 x2 J = some r) : zzEv d 182 0 [.ref 46, .int x1, .int x2, zzU] [] (zK J) (some (.int r.1), zK r.2) := by
  unfold F_X7_ride at h
  refine ev_iload_n zo_182_0 rfl rfl rfl ?_
  refine ev_i2l zo_182_1 rfl ?_
  refine ev_ldc2 zo_182_2 zc_182_181 rfl ?_
  refine ev_ldc2 zo_182_5 zc_182_299 rfl ?_
  obtain ⟨q12, hq12, h⟩ := zz_bd h
  refine ev_cS (as := [.long (29 : Int64), .long (10 : Int64), .long x2.toInt64]) (lsn := [.long x2.toInt64, zzU, .long (10 : Int64), zzU, .long (29 : Int64), zzU]) (by omega) zo_182_8 zl_182_88 (by decide) (by rw [zm_136]; rfl) (by unfold zzIn; rw [zm_136]; rfl) (by rw [zm_136]; exact Nat.le_of_ble_eq_true rfl) (Nat.le_of_ble_eq_true rfl) (G_X7_in (by omega) x2.toInt64 (10 : Int64) (29 : Int64) J q12 hq12) rfl ?_
  show zzEv _ _ _ _ [.int q12.1] _ _
  by_cases c13 : q12.1 = (0 : Int32)
  · rw [if_pos c13] at h
    refine ev_if_t (t := 29) zo_182_11 rfl (zcm_eq c13) ?_
    exact G_X7_ride_29 hd x1 x2 q12.2 r h
  rw [if_neg c13] at h
  refine ev_if_f (t := 29) zo_182_11 rfl (zcm_neq c13) rfl ?_
  refine ev_aload_n zo_182_14 rfl rfl rfl rfl ?_
  refine ev_iload_n zo_182_15 rfl rfl rfl ?_
  refine ev_bipush (x := 10) zo_182_16 (by decide) rfl ?_
  refine ev_irem zo_182_18 (by decide) rfl ?_
  obtain ⟨q14, hq14, h⟩ := zz_bd h
  refine ev_cV (as := [.int (zRem x2 (10 : Int32))]) (lsn := [.ref 46, .int (zRem x2 (10 : Int32))]) (by omega) zo_182_19 zl_182_94 (by rw [zm_140]; rfl) (by rw [zm_140]; exact rfl) (by rw [zm_140]; decide) (by unfold zzIn; rw [zm_140]; rfl) (by rw [zm_140]; exact Nat.le_of_ble_eq_true rfl) (Nat.le_of_ble_eq_true rfl) (G_X7_isOne (by omega) (zRem x2 (10 : Int32)) q12.2 q14 hq14) rfl ?_
  show zzEv _ _ _ _ [.int q14.1] _ _
  by_cases c15 : q14.1 = (0 : Int32)
  · rw [if_pos c15] at h
    refine ev_if_t (t := 29) zo_182_22 rfl (zcm_eq c15) ?_
    exact G_X7_ride_29 hd x1 x2 q14.2 r h
  rw [if_neg c15] at h
  refine ev_if_f (t := 29) zo_182_22 rfl (zcm_neq c15) rfl ?_
  refine ev_iconst (x := 1) zo_182_25 (by decide) rfl ?_
  refine ev_goto (t := 30) zo_182_26 rfl ?_
  exact G_X7_ride_30 hd x1 x2 (1 : Int32) q14.2 r h
/-! X7_best -/
def F_X7_best_100 (kl_41 : Int32 → Int32 → Int32 → Int32 → zzJ → Option (Int32 × zzJ)) (l1 : Int32) (l2 : Int32) (l3 : Int32) (l4 : Int32) (l5 : Int32) (J : zzJ) : Option (Int32 × zzJ) := kl_41 l1 l2 l3 (l4 + 1) (wI (wI J 46 35 l4) 46 36 l5)
set_option maxRecDepth 100000 in
set_option maxHeartbeats 2000000 in
theorem G_X7_best_100 {d : Nat} (kl_41 : Int32 → Int32 → Int32 → Int32 → zzJ → Option (Int32 × zzJ)) (hkl_41 : ∀ (l1 : Int32) (l2 : Int32) (l3 : Int32) (l4 : Int32) (J : zzJ) (r : Int32 × zzJ), kl_41 l1 l2 l3 l4 J = some r → ∀ (lv5 : Value) (hlv5 : lv5.category = 1), zzEv d 183 41 [.ref 46, .int l1, .int l2, .int l3, .int l4, lv5] [] (zK J) (some (.int r.1), zK r.2)) (hd : 95 ≤ d) : ∀ (l1 : Int32) (l2 : Int32) (l3 : Int32) (l4 : Int32) (l5 : Int32) (J : zzJ) (r : Int32 × zzJ), F_X7_best_100 kl_41 l1 l2 l3 l4 l5 J = some r → zzEv d 183 100 [.ref 46, .int l1, .int l2, .int l3, .int l4, .int l5] [] (zK J) (some (.int r.1), zK r.2) := by
  intro l1 l2 l3 l4 l5 J r h
  unfold F_X7_best_100 at h
  refine ev_aload_n zo_183_100 rfl rfl rfl rfl ?_
  refine ev_iload zo_183_101 rfl rfl ?_
  refine ev_putI zo_183_103 zf_183_304 (by decide) rfl rfl rfl rfl ?_
  refine ev_aload_n zo_183_106 rfl rfl rfl rfl ?_
  refine ev_iload zo_183_107 rfl rfl ?_
  refine ev_putI zo_183_109 zf_183_307 (by decide) rfl rfl rfl rfl ?_
  refine ev_iinc (v := 1) zo_183_112 rfl (by decide) (zz_set rfl (by decide) (Nat.le_of_ble_eq_true rfl)) rfl ?_
  show zzEv _ _ _ [.ref 46, .int l1, .int l2, .int l3, .int (l4 + 1), .int l5] _ _ _
  refine ev_goto (t := 41) zo_183_115 rfl ?_
  exact hkl_41 l1 l2 l3 (l4 + 1) (wI (wI J 46 35 l4) 46 36 l5) r h (.int l5) rfl
def F_X7_best_70 (kl_41 : Int32 → Int32 → Int32 → Int32 → zzJ → Option (Int32 × zzJ)) (l1 : Int32) (l2 : Int32) (l3 : Int32) (l4 : Int32) (J : zzJ) : Option (Int32 × zzJ) := (Option.bind (F_X7_seats l1 l4 J) fun q1 => (Option.bind (F_X7_din q1) fun q2 => (if (q2.2.2 46 35) = (-1 : Int32) then F_X7_best_100 kl_41 l1 l2 l3 l4 q2.1 q2.2 else (if q2.1 < (q2.2.2 46 36) then F_X7_best_100 kl_41 l1 l2 l3 l4 q2.1 q2.2 else kl_41 l1 l2 l3 (l4 + 1) q2.2))))
set_option maxRecDepth 100000 in
set_option maxHeartbeats 2000000 in
theorem G_X7_best_70 {d : Nat} (kl_41 : Int32 → Int32 → Int32 → Int32 → zzJ → Option (Int32 × zzJ)) (hkl_41 : ∀ (l1 : Int32) (l2 : Int32) (l3 : Int32) (l4 : Int32) (J : zzJ) (r : Int32 × zzJ), kl_41 l1 l2 l3 l4 J = some r → ∀ (lv5 : Value) (hlv5 : lv5.category = 1), zzEv d 183 41 [.ref 46, .int l1, .int l2, .int l3, .int l4, lv5] [] (zK J) (some (.int r.1), zK r.2)) (hd : 95 ≤ d) : ∀ (l1 : Int32) (l2 : Int32) (l3 : Int32) (l4 : Int32) (J : zzJ) (r : Int32 × zzJ), F_X7_best_70 kl_41 l1 l2 l3 l4 J = some r → ∀ (lv5 : Value) (hlv5 : lv5.category = 1), zzEv d 183 70 [.ref 46, .int l1, .int l2, .int l3, .int l4, lv5] [] (zK J) (some (.int r.1), zK r.2) := by
  intro l1 l2 l3 l4 J r h lv5 hlv5
  unfold F_X7_best_70 at h
  refine ev_aload_n zo_183_70 rfl rfl rfl rfl ?_
  refine ev_iload_n zo_183_71 rfl rfl rfl ?_
  refine ev_iload zo_183_72 rfl rfl ?_
  obtain ⟨q1, hq1, h⟩ := zz_bd h
  refine ev_cV (as := [.int l4, .int l1]) (lsn := [.ref 46, .int l1, .int l4]) (by omega) zo_183_74 zl_183_129 (by rw [zm_146]; rfl) (by rw [zm_146]; exact rfl) (by rw [zm_146]; decide) (by unfold zzIn; rw [zm_146]; rfl) (by rw [zm_146]; exact Nat.le_of_ble_eq_true rfl) (Nat.le_of_ble_eq_true rfl) (G_X7_seats (by omega) l1 l4 J q1 hq1) rfl ?_
  show zzEv _ _ _ _ [] _ _
  refine ev_aload_n zo_183_77 rfl rfl rfl rfl ?_
  obtain ⟨q2, hq2, h⟩ := zz_bd h
  refine ev_cV (as := []) (lsn := [.ref 46, zzU, zzU]) (by omega) zo_183_78 zl_183_287 (by rw [zm_178]; rfl) (by rw [zm_178]; exact rfl) (by rw [zm_178]; decide) (by unfold zzIn; rw [zm_178]; rfl) (by rw [zm_178]; exact Nat.le_of_ble_eq_true rfl) (Nat.le_of_ble_eq_true rfl) (G_X7_din (by omega) q1 q2 hq2) rfl ?_
  show zzEv _ _ _ _ [.int q2.1] _ _
  refine ev_istore zo_183_81 (zz_set rfl (by decide) (Nat.le_of_ble_eq_true rfl)) rfl ?_
  show zzEv _ _ _ [.ref 46, .int l1, .int l2, .int l3, .int l4, .int q2.1] _ _ _
  refine ev_aload_n zo_183_83 rfl rfl rfl rfl ?_
  refine ev_getI zo_183_84 zf_183_304 (by decide) (Or.inl rfl) rfl rfl ?_
  refine ev_iconst (x := (-1)) zo_183_87 (by decide) rfl ?_
  by_cases c3 : (q2.2.2 46 35) = (-1 : Int32)
  · rw [if_pos c3] at h
    refine ev_cmp_t (t := 100) zo_183_88 rfl (zcm_eq c3) ?_
    exact G_X7_best_100 kl_41 hkl_41 hd l1 l2 l3 l4 q2.1 q2.2 r h
  rw [if_neg c3] at h
  refine ev_cmp_f (t := 100) zo_183_88 rfl (zcm_neq c3) rfl ?_
  refine ev_iload zo_183_91 rfl rfl ?_
  refine ev_aload_n zo_183_93 rfl rfl rfl rfl ?_
  refine ev_getI zo_183_94 zf_183_307 (by decide) (Or.inl rfl) rfl rfl ?_
  by_cases c4 : q2.1 < (q2.2.2 46 36)
  · rw [if_pos c4] at h
    refine ev_cmp_f (t := 112) zo_183_97 rfl (zcm_nge c4) rfl ?_
    exact G_X7_best_100 kl_41 hkl_41 hd l1 l2 l3 l4 q2.1 q2.2 r h
  rw [if_neg c4] at h
  refine ev_cmp_t (t := 112) zo_183_97 rfl (zcm_ge c4) ?_
  refine ev_iinc (v := 1) zo_183_112 rfl (by decide) (zz_set rfl (by decide) (Nat.le_of_ble_eq_true rfl)) rfl ?_
  show zzEv _ _ _ [.ref 46, .int l1, .int l2, .int l3, .int (l4 + 1), .int q2.1] _ _ _
  refine ev_goto (t := 41) zo_183_115 rfl ?_
  exact hkl_41 l1 l2 l3 (l4 + 1) q2.2 r h (.int q2.1) rfl
def F_X7_best_41 : Nat → Int32 → Int32 → Int32 → Int32 → zzJ → Option (Int32 × zzJ)
  | 0, _, _, _, _, _ => none
  | n + 1, l1, l2, l3, l4, J => (if l4 < (24 : Int32) then (if zzIx l4 24 then (if (J.2 54 l4.toNatClampNeg) = (-1 : Int32) then F_X7_best_70 (F_X7_best_41 n) l1 l2 l3 l4 J else (if zzIx l4 24 then (if (J.2 54 l4.toNatClampNeg) = l1 then F_X7_best_70 (F_X7_best_41 n) l1 l2 l3 l4 J else F_X7_best_41 n l1 l2 l3 (l4 + 1) J) else none)) else none) else (Option.bind (F_X7_seats l1 l3 J) fun q6 => (if l2 = (0 : Int32) then some ((q6.2 46 35), q6) else some ((q6.2 46 36), q6))))
set_option maxRecDepth 100000 in
set_option maxHeartbeats 2000000 in
theorem G_X7_best_41 {d : Nat} (hd : 95 ≤ d) : ∀ (n : Nat) (l1 : Int32) (l2 : Int32) (l3 : Int32) (l4 : Int32) (J : zzJ) (r : Int32 × zzJ), F_X7_best_41 n l1 l2 l3 l4 J = some r → ∀ (lv5 : Value) (hlv5 : lv5.category = 1), zzEv d 183 41 [.ref 46, .int l1, .int l2, .int l3, .int l4, lv5] [] (zK J) (some (.int r.1), zK r.2) := by
  intro n
  induction n with
  | zero => intro l1 l2 l3 l4 J r h; simp [F_X7_best_41] at h
  | succ n ih =>
    intro l1 l2 l3 l4 J r h lv5 hlv5
    rw [F_X7_best_41] at h
    refine ev_iload zo_183_41 rfl rfl ?_
    refine ev_bipush (x := 24) zo_183_43 (by decide) rfl ?_
    by_cases c5 : l4 < (24 : Int32)
    · rw [if_pos c5] at h
      refine ev_cmp_f (t := 118) zo_183_45 rfl (zcm_nge c5) rfl ?_
      refine ev_aload_n zo_183_48 rfl rfl rfl rfl ?_
      refine ev_getR zo_183_49 zf_183_38 (by decide) rfl rfl rfl rfl ?_
      refine ev_iload zo_183_52 rfl rfl ?_
      obtain ⟨c8, h⟩ := zz_chk h
      refine ev_iald zo_183_54 rfl c8 rfl ?_
      refine ev_iconst (x := (-1)) zo_183_55 (by decide) rfl ?_
      by_cases c9 : (J.2 54 l4.toNatClampNeg) = (-1 : Int32)
      · rw [if_pos c9] at h
        refine ev_cmp_t (t := 70) zo_183_56 rfl (zcm_eq c9) ?_
        exact G_X7_best_70 (F_X7_best_41 n) ih hd l1 l2 l3 l4 J r h (lv5) hlv5
      rw [if_neg c9] at h
      refine ev_cmp_f (t := 70) zo_183_56 rfl (zcm_neq c9) rfl ?_
      refine ev_aload_n zo_183_59 rfl rfl rfl rfl ?_
      refine ev_getR zo_183_60 zf_183_38 (by decide) rfl rfl rfl rfl ?_
      refine ev_iload zo_183_63 rfl rfl ?_
      obtain ⟨c10, h⟩ := zz_chk h
      refine ev_iald zo_183_65 rfl c10 rfl ?_
      refine ev_iload_n zo_183_66 rfl rfl rfl ?_
      by_cases c11 : (J.2 54 l4.toNatClampNeg) = l1
      · rw [if_pos c11] at h
        refine ev_cmp_f (t := 112) zo_183_67 rfl (zcm_nne c11) rfl ?_
        exact G_X7_best_70 (F_X7_best_41 n) ih hd l1 l2 l3 l4 J r h (lv5) hlv5
      rw [if_neg c11] at h
      refine ev_cmp_t (t := 112) zo_183_67 rfl (zcm_ne c11) ?_
      refine ev_iinc (v := 1) zo_183_112 rfl (by decide) (zz_set rfl (by decide) (Nat.le_of_ble_eq_true rfl)) rfl ?_
      show zzEv _ _ _ [.ref 46, .int l1, .int l2, .int l3, .int (l4 + 1), lv5] _ _ _
      refine ev_goto (t := 41) zo_183_115 rfl ?_
      exact ih l1 l2 l3 (l4 + 1) J r h (lv5) hlv5
    rw [if_neg c5] at h
    refine ev_cmp_t (t := 118) zo_183_45 rfl (zcm_ge c5) ?_
    refine ev_aload_n zo_183_118 rfl rfl rfl rfl ?_
    refine ev_iload_n zo_183_119 rfl rfl rfl ?_
    refine ev_iload_n zo_183_120 rfl rfl rfl ?_
    obtain ⟨q6, hq6, h⟩ := zz_bd h
    refine ev_cV (as := [.int l3, .int l1]) (lsn := [.ref 46, .int l1, .int l3]) (by omega) zo_183_121 zl_183_129 (by rw [zm_146]; rfl) (by rw [zm_146]; exact rfl) (by rw [zm_146]; decide) (by unfold zzIn; rw [zm_146]; rfl) (by rw [zm_146]; exact Nat.le_of_ble_eq_true rfl) (Nat.le_of_ble_eq_true rfl) (G_X7_seats (by omega) l1 l3 J q6 hq6) rfl ?_
    show zzEv _ _ _ _ [] _ _
    refine ev_iload_n zo_183_124 rfl rfl rfl ?_
    by_cases c7 : l2 = (0 : Int32)
    · rw [if_pos c7] at h
      refine ev_if_f (t := 135) zo_183_125 rfl (zcm_nne c7) rfl ?_
      refine ev_aload_n zo_183_128 rfl rfl rfl rfl ?_
      refine ev_getI zo_183_129 zf_183_304 (by decide) (Or.inl rfl) rfl rfl ?_
      refine ev_goto (t := 139) zo_183_132 rfl ?_
      obtain rfl := Option.some.inj h
      exact ev_retI zo_183_139 zr_183
    rw [if_neg c7] at h
    refine ev_if_t (t := 135) zo_183_125 rfl (zcm_ne c7) ?_
    refine ev_aload_n zo_183_135 rfl rfl rfl rfl ?_
    refine ev_getI zo_183_136 zf_183_307 (by decide) (Or.inl rfl) rfl rfl ?_
    obtain rfl := Option.some.inj h
    exact ev_retI zo_183_139 zr_183
def F_X7_best (x1 : Int32) (x2 : Int32) (J : zzJ) : Option (Int32 × zzJ) := (Option.bind (F_X7_isOne x1 J) fun q12 => (if q12.1 = (0 : Int32) then some ((-2 : Int32), q12.2) else (Option.bind (F_X7_in x2.toInt64 (0 : Int64) (1 : Int64) q12.2) fun q14 => (if q14.1 = (0 : Int32) then some ((-2 : Int32), q14.2) else (if zzIx x1 8 then F_X7_best_41 4096 x1 x2 (q14.2.2 53 x1.toNatClampNeg) (0 : Int32) (wI (wI q14.2 46 35 (-1 : Int32)) 46 36 (0 : Int32)) else none)))))
set_option maxRecDepth 100000 in
set_option maxHeartbeats 2000000 in
theorem G_X7_best {d : Nat} (hd : 95 ≤ d) (x1 : Int32) (x2 : Int32) (J : zzJ) (r : Int32 × zzJ) (h : F_X7_best x1 x2 J = some r) : zzEv d 183 0 [.ref 46, .int x1, .int x2, zzU, zzU, zzU] [] (zK J) (some (.int r.1), zK r.2) := by
  unfold F_X7_best at h
  refine ev_aload_n zo_183_0 rfl rfl rfl rfl ?_
  refine ev_iload_n zo_183_1 rfl rfl rfl ?_
  obtain ⟨q12, hq12, h⟩ := zz_bd h
  refine ev_cV (as := [.int x1]) (lsn := [.ref 46, .int x1]) (by omega) zo_183_2 zl_183_94 (by rw [zm_140]; rfl) (by rw [zm_140]; exact rfl) (by rw [zm_140]; decide) (by unfold zzIn; rw [zm_140]; rfl) (by rw [zm_140]; exact Nat.le_of_ble_eq_true rfl) (Nat.le_of_ble_eq_true rfl) (G_X7_isOne (by omega) x1 J q12 hq12) rfl ?_
  show zzEv _ _ _ _ [.int q12.1] _ _
  by_cases c13 : q12.1 = (0 : Int32)
  · rw [if_pos c13] at h
    refine ev_if_t (t := 18) zo_183_5 rfl (zcm_eq c13) ?_
    refine ev_bipush (x := (-2)) zo_183_18 (by decide) rfl ?_
    obtain rfl := Option.some.inj h
    exact ev_retI zo_183_20 zr_183
  rw [if_neg c13] at h
  refine ev_if_f (t := 18) zo_183_5 rfl (zcm_neq c13) rfl ?_
  refine ev_iload_n zo_183_8 rfl rfl rfl ?_
  refine ev_i2l zo_183_9 rfl ?_
  refine ev_lconst (x := 0) zo_183_10 (by decide) rfl ?_
  refine ev_lconst (x := 1) zo_183_11 (by decide) rfl ?_
  obtain ⟨q14, hq14, h⟩ := zz_bd h
  refine ev_cS (as := [.long (1 : Int64), .long (0 : Int64), .long x2.toInt64]) (lsn := [.long x2.toInt64, zzU, .long (0 : Int64), zzU, .long (1 : Int64), zzU]) (by omega) zo_183_12 zl_183_88 (by decide) (by rw [zm_136]; rfl) (by unfold zzIn; rw [zm_136]; rfl) (by rw [zm_136]; exact Nat.le_of_ble_eq_true rfl) (Nat.le_of_ble_eq_true rfl) (G_X7_in (by omega) x2.toInt64 (0 : Int64) (1 : Int64) q12.2 q14 hq14) rfl ?_
  show zzEv _ _ _ _ [.int q14.1] _ _
  by_cases c15 : q14.1 = (0 : Int32)
  · rw [if_pos c15] at h
    refine ev_if_f (t := 21) zo_183_15 rfl (zcm_nne c15) rfl ?_
    refine ev_bipush (x := (-2)) zo_183_18 (by decide) rfl ?_
    obtain rfl := Option.some.inj h
    exact ev_retI zo_183_20 zr_183
  rw [if_neg c15] at h
  refine ev_if_t (t := 21) zo_183_15 rfl (zcm_ne c15) ?_
  refine ev_aload_n zo_183_21 rfl rfl rfl rfl ?_
  refine ev_getR zo_183_22 zf_183_35 (by decide) rfl rfl rfl rfl ?_
  refine ev_iload_n zo_183_25 rfl rfl rfl ?_
  obtain ⟨c16, h⟩ := zz_chk h
  refine ev_iald zo_183_26 rfl c16 rfl ?_
  refine ev_istore_n zo_183_27 rfl (zz_set rfl (by decide) (Nat.le_of_ble_eq_true rfl)) rfl ?_
  show zzEv _ _ _ [.ref 46, .int x1, .int x2, .int (q14.2.2 53 x1.toNatClampNeg), zzU, zzU] _ _ _
  refine ev_aload_n zo_183_28 rfl rfl rfl rfl ?_
  refine ev_iconst (x := (-1)) zo_183_29 (by decide) rfl ?_
  refine ev_putI zo_183_30 zf_183_304 (by decide) rfl rfl rfl rfl ?_
  refine ev_aload_n zo_183_33 rfl rfl rfl rfl ?_
  refine ev_iconst (x := 0) zo_183_34 (by decide) rfl ?_
  refine ev_putI zo_183_35 zf_183_307 (by decide) rfl rfl rfl rfl ?_
  refine ev_iconst (x := 0) zo_183_38 (by decide) rfl ?_
  refine ev_istore zo_183_39 (zz_set rfl (by decide) (Nat.le_of_ble_eq_true rfl)) rfl ?_
  show zzEv _ _ _ [.ref 46, .int x1, .int x2, .int (q14.2.2 53 x1.toNatClampNeg), .int (0 : Int32), zzU] _ _ _
  exact G_X7_best_41 hd 4096 x1 x2 (q14.2.2 53 x1.toNatClampNeg) (0 : Int32) (wI (wI q14.2 46 35 (-1 : Int32)) 46 36 (0 : Int32)) r h (zzU) rfl
/-! X7_swaps -/
def F_X7_swaps (x1 : Int32) (x2 : Int32) (J : zzJ) : Option (zzJ) := (if zzIx x1 8 then (if zzIx x2 8 then (if zzIx x1 8 then (if zzIx x2 8 then (if zzIx (J.2 53 x1.toNatClampNeg) 24 then (if zzIx (J.2 53 x2.toNatClampNeg) 24 then some (wI (wI (wI (wI J 53 x1.toNatClampNeg (J.2 53 x2.toNatClampNeg)) 53 x2.toNatClampNeg (J.2 53 x1.toNatClampNeg)) 54 (J.2 53 x1.toNatClampNeg).toNatClampNeg x2) 54 (J.2 53 x2.toNatClampNeg).toNatClampNeg x1) else none) else none) else none) else none) else none) else none)
set_option maxRecDepth 100000 in
set_option maxHeartbeats 2000000 in
theorem G_X7_swaps {d : Nat} (hd : 0 ≤ d) (x1 : Int32) (x2 : Int32) (J : zzJ) (r : zzJ) (h : F_X7_swaps x1 x2 J = some r) : zzEv d 184 0 [.ref 46, .int x1, .int x2, zzU, zzU] [] (zK J) (none, zK r) := by
  unfold F_X7_swaps at h
  refine ev_aload_n zo_184_0 rfl rfl rfl rfl ?_
  refine ev_getR zo_184_1 zf_184_35 (by decide) rfl rfl rfl rfl ?_
  refine ev_iload_n zo_184_4 rfl rfl rfl ?_
  obtain ⟨c1, h⟩ := zz_chk h
  refine ev_iald zo_184_5 rfl c1 rfl ?_
  refine ev_istore_n zo_184_6 rfl (zz_set rfl (by decide) (Nat.le_of_ble_eq_true rfl)) rfl ?_
  show zzEv _ _ _ [.ref 46, .int x1, .int x2, .int (J.2 53 x1.toNatClampNeg), zzU] _ _ _
  refine ev_aload_n zo_184_7 rfl rfl rfl rfl ?_
  refine ev_getR zo_184_8 zf_184_35 (by decide) rfl rfl rfl rfl ?_
  refine ev_iload_n zo_184_11 rfl rfl rfl ?_
  obtain ⟨c2, h⟩ := zz_chk h
  refine ev_iald zo_184_12 rfl c2 rfl ?_
  refine ev_istore zo_184_13 (zz_set rfl (by decide) (Nat.le_of_ble_eq_true rfl)) rfl ?_
  show zzEv _ _ _ [.ref 46, .int x1, .int x2, .int (J.2 53 x1.toNatClampNeg), .int (J.2 53 x2.toNatClampNeg)] _ _ _
  refine ev_aload_n zo_184_15 rfl rfl rfl rfl ?_
  refine ev_getR zo_184_16 zf_184_35 (by decide) rfl rfl rfl rfl ?_
  refine ev_iload_n zo_184_19 rfl rfl rfl ?_
  refine ev_iload zo_184_20 rfl rfl ?_
  obtain ⟨c3, h⟩ := zz_chk h
  refine ev_iast zo_184_22 rfl c3 rfl ?_
  refine ev_aload_n zo_184_23 rfl rfl rfl rfl ?_
  refine ev_getR zo_184_24 zf_184_35 (by decide) rfl rfl rfl rfl ?_
  refine ev_iload_n zo_184_27 rfl rfl rfl ?_
  refine ev_iload_n zo_184_28 rfl rfl rfl ?_
  obtain ⟨c4, h⟩ := zz_chk h
  refine ev_iast zo_184_29 rfl c4 rfl ?_
  refine ev_aload_n zo_184_30 rfl rfl rfl rfl ?_
  refine ev_getR zo_184_31 zf_184_38 (by decide) rfl rfl rfl rfl ?_
  refine ev_iload_n zo_184_34 rfl rfl rfl ?_
  refine ev_iload_n zo_184_35 rfl rfl rfl ?_
  obtain ⟨c5, h⟩ := zz_chk h
  refine ev_iast zo_184_36 rfl c5 rfl ?_
  refine ev_aload_n zo_184_37 rfl rfl rfl rfl ?_
  refine ev_getR zo_184_38 zf_184_38 (by decide) rfl rfl rfl rfl ?_
  refine ev_iload zo_184_41 rfl rfl ?_
  refine ev_iload_n zo_184_43 rfl rfl rfl ?_
  obtain ⟨c6, h⟩ := zz_chk h
  refine ev_iast zo_184_44 rfl c6 rfl ?_
  obtain rfl := Option.some.inj h
  exact ev_retV zo_184_45 zr_184
/-! X7_looksAt -/
def F_X7_looksAt (x1 : Int32) (x2 : Int32) (J : zzJ) : Option (zzJ) := (Option.bind (F_X7_swaps x1 x2 J) fun q1 => (Option.bind (F_X7_din q1) fun q2 => (Option.bind (F_X7_swaps x1 x2 q2.2) fun q3 => (if q2.1 < (q3.2 46 36) then some (wI (wI q3 46 35 (((10 : Int32) * x1) + x2)) 46 36 q2.1) else some q3))))
set_option maxRecDepth 100000 in
set_option maxHeartbeats 2000000 in
theorem G_X7_looksAt {d : Nat} (hd : 95 ≤ d) (x1 : Int32) (x2 : Int32) (J : zzJ) (r : zzJ) (h : F_X7_looksAt x1 x2 J = some r) : zzEv d 185 0 [.ref 46, .int x1, .int x2, zzU] [] (zK J) (none, zK r) := by
  unfold F_X7_looksAt at h
  refine ev_aload_n zo_185_0 rfl rfl rfl rfl ?_
  refine ev_iload_n zo_185_1 rfl rfl rfl ?_
  refine ev_iload_n zo_185_2 rfl rfl rfl ?_
  obtain ⟨q1, hq1, h⟩ := zz_bd h
  refine ev_cV (as := [.int x2, .int x1]) (lsn := [.ref 46, .int x1, .int x2, zzU, zzU]) (by omega) zo_185_3 zl_185_310 (by rw [zm_184]; rfl) (by rw [zm_184]; exact rfl) (by rw [zm_184]; decide) (by unfold zzIn; rw [zm_184]; rfl) (by rw [zm_184]; exact Nat.le_of_ble_eq_true rfl) (Nat.le_of_ble_eq_true rfl) (G_X7_swaps (by omega) x1 x2 J q1 hq1) rfl ?_
  show zzEv _ _ _ _ [] _ _
  refine ev_aload_n zo_185_6 rfl rfl rfl rfl ?_
  obtain ⟨q2, hq2, h⟩ := zz_bd h
  refine ev_cV (as := []) (lsn := [.ref 46, zzU, zzU]) (by omega) zo_185_7 zl_185_287 (by rw [zm_178]; rfl) (by rw [zm_178]; exact rfl) (by rw [zm_178]; decide) (by unfold zzIn; rw [zm_178]; rfl) (by rw [zm_178]; exact Nat.le_of_ble_eq_true rfl) (Nat.le_of_ble_eq_true rfl) (G_X7_din (by omega) q1 q2 hq2) rfl ?_
  show zzEv _ _ _ _ [.int q2.1] _ _
  refine ev_istore_n zo_185_10 rfl (zz_set rfl (by decide) (Nat.le_of_ble_eq_true rfl)) rfl ?_
  show zzEv _ _ _ [.ref 46, .int x1, .int x2, .int q2.1] _ _ _
  refine ev_aload_n zo_185_11 rfl rfl rfl rfl ?_
  refine ev_iload_n zo_185_12 rfl rfl rfl ?_
  refine ev_iload_n zo_185_13 rfl rfl rfl ?_
  obtain ⟨q3, hq3, h⟩ := zz_bd h
  refine ev_cV (as := [.int x2, .int x1]) (lsn := [.ref 46, .int x1, .int x2, zzU, zzU]) (by omega) zo_185_14 zl_185_310 (by rw [zm_184]; rfl) (by rw [zm_184]; exact rfl) (by rw [zm_184]; decide) (by unfold zzIn; rw [zm_184]; rfl) (by rw [zm_184]; exact Nat.le_of_ble_eq_true rfl) (Nat.le_of_ble_eq_true rfl) (G_X7_swaps (by omega) x1 x2 q2.2 q3 hq3) rfl ?_
  show zzEv _ _ _ _ [] _ _
  refine ev_iload_n zo_185_17 rfl rfl rfl ?_
  refine ev_aload_n zo_185_18 rfl rfl rfl rfl ?_
  refine ev_getI zo_185_19 zf_185_307 (by decide) (Or.inl rfl) rfl rfl ?_
  by_cases c4 : q2.1 < (q3.2 46 36)
  · rw [if_pos c4] at h
    refine ev_cmp_f (t := 40) zo_185_22 rfl (zcm_nge c4) rfl ?_
    refine ev_aload_n zo_185_25 rfl rfl rfl rfl ?_
    refine ev_bipush (x := 10) zo_185_26 (by decide) rfl ?_
    refine ev_iload_n zo_185_28 rfl rfl rfl ?_
    refine ev_imul zo_185_29 rfl ?_
    refine ev_iload_n zo_185_30 rfl rfl rfl ?_
    refine ev_iadd zo_185_31 rfl ?_
    refine ev_putI zo_185_32 zf_185_304 (by decide) rfl rfl rfl rfl ?_
    refine ev_aload_n zo_185_35 rfl rfl rfl rfl ?_
    refine ev_iload_n zo_185_36 rfl rfl rfl ?_
    refine ev_putI zo_185_37 zf_185_307 (by decide) rfl rfl rfl rfl ?_
    obtain rfl := Option.some.inj h
    exact ev_retV zo_185_40 zr_185
  rw [if_neg c4] at h
  refine ev_cmp_t (t := 40) zo_185_22 rfl (zcm_ge c4) ?_
  obtain rfl := Option.some.inj h
  exact ev_retV zo_185_40 zr_185
/-! X7_change -/
def F_X7_change_40 (kl_28 : Int32 → Int32 → zzJ → Option (Int32 × zzJ)) : Nat → Int32 → Int32 → Int32 → zzJ → Option (Int32 × zzJ)
  | 0, _, _, _, _ => none
  | n + 1, l1, l2, l3, J => (if l3 < (J.2 46 14) then (if zzIx l2 8 then (if (J.2 53 l2.toNatClampNeg) = (-1 : Int32) then F_X7_change_40 kl_28 n l1 l2 (l3 + 1) J else (if zzIx l3 8 then (if (J.2 53 l3.toNatClampNeg) = (-1 : Int32) then F_X7_change_40 kl_28 n l1 l2 (l3 + 1) J else (Option.bind (F_X7_looksAt l2 l3 J) fun q6 => F_X7_change_40 kl_28 n l1 l2 (l3 + 1) q6)) else none)) else none) else kl_28 l1 (l2 + 1) J)
set_option maxRecDepth 100000 in
set_option maxHeartbeats 2000000 in
theorem G_X7_change_40 {d : Nat} (kl_28 : Int32 → Int32 → zzJ → Option (Int32 × zzJ)) (hkl_28 : ∀ (l1 : Int32) (l2 : Int32) (J : zzJ) (r : Int32 × zzJ), kl_28 l1 l2 J = some r → ∀ (lv3 : Value) (hlv3 : lv3.category = 1), zzEv d 186 28 [.ref 46, .int l1, .int l2, lv3] [] (zK J) (some (.int r.1), zK r.2)) (hd : 96 ≤ d) : ∀ (n : Nat) (l1 : Int32) (l2 : Int32) (l3 : Int32) (J : zzJ) (r : Int32 × zzJ), F_X7_change_40 kl_28 n l1 l2 l3 J = some r → zzEv d 186 40 [.ref 46, .int l1, .int l2, .int l3] [] (zK J) (some (.int r.1), zK r.2) := by
  intro n
  induction n with
  | zero => intro l1 l2 l3 J r h; simp [F_X7_change_40] at h
  | succ n ih =>
    intro l1 l2 l3 J r h
    rw [F_X7_change_40] at h
    refine ev_iload_n zo_186_40 rfl rfl rfl ?_
    refine ev_aload_n zo_186_41 rfl rfl rfl rfl ?_
    refine ev_getI zo_186_42 zf_186_85 (by decide) (Or.inl rfl) rfl rfl ?_
    by_cases c1 : l3 < (J.2 46 14)
    · rw [if_pos c1] at h
      refine ev_cmp_f (t := 80) zo_186_45 rfl (zcm_nge c1) rfl ?_
      refine ev_aload_n zo_186_48 rfl rfl rfl rfl ?_
      refine ev_getR zo_186_49 zf_186_35 (by decide) rfl rfl rfl rfl ?_
      refine ev_iload_n zo_186_52 rfl rfl rfl ?_
      obtain ⟨c2, h⟩ := zz_chk h
      refine ev_iald zo_186_53 rfl c2 rfl ?_
      refine ev_iconst (x := (-1)) zo_186_54 (by decide) rfl ?_
      by_cases c3 : (J.2 53 l2.toNatClampNeg) = (-1 : Int32)
      · rw [if_pos c3] at h
        refine ev_cmp_t (t := 74) zo_186_55 rfl (zcm_eq c3) ?_
        refine ev_iinc (v := 1) zo_186_74 rfl (by decide) (zz_set rfl (by decide) (Nat.le_of_ble_eq_true rfl)) rfl ?_
        show zzEv _ _ _ [.ref 46, .int l1, .int l2, .int (l3 + 1)] _ _ _
        refine ev_goto (t := 40) zo_186_77 rfl ?_
        exact ih l1 l2 (l3 + 1) J r h
      rw [if_neg c3] at h
      refine ev_cmp_f (t := 74) zo_186_55 rfl (zcm_neq c3) rfl ?_
      refine ev_aload_n zo_186_58 rfl rfl rfl rfl ?_
      refine ev_getR zo_186_59 zf_186_35 (by decide) rfl rfl rfl rfl ?_
      refine ev_iload_n zo_186_62 rfl rfl rfl ?_
      obtain ⟨c4, h⟩ := zz_chk h
      refine ev_iald zo_186_63 rfl c4 rfl ?_
      refine ev_iconst (x := (-1)) zo_186_64 (by decide) rfl ?_
      by_cases c5 : (J.2 53 l3.toNatClampNeg) = (-1 : Int32)
      · rw [if_pos c5] at h
        refine ev_cmp_t (t := 74) zo_186_65 rfl (zcm_eq c5) ?_
        refine ev_iinc (v := 1) zo_186_74 rfl (by decide) (zz_set rfl (by decide) (Nat.le_of_ble_eq_true rfl)) rfl ?_
        show zzEv _ _ _ [.ref 46, .int l1, .int l2, .int (l3 + 1)] _ _ _
        refine ev_goto (t := 40) zo_186_77 rfl ?_
        exact ih l1 l2 (l3 + 1) J r h
      rw [if_neg c5] at h
      refine ev_cmp_f (t := 74) zo_186_65 rfl (zcm_neq c5) rfl ?_
      refine ev_aload_n zo_186_68 rfl rfl rfl rfl ?_
      refine ev_iload_n zo_186_69 rfl rfl rfl ?_
      refine ev_iload_n zo_186_70 rfl rfl rfl ?_
      obtain ⟨q6, hq6, h⟩ := zz_bd h
      refine ev_cV (as := [.int l3, .int l2]) (lsn := [.ref 46, .int l2, .int l3, zzU]) (by omega) zo_186_71 zl_186_313 (by rw [zm_185]; rfl) (by rw [zm_185]; exact rfl) (by rw [zm_185]; decide) (by unfold zzIn; rw [zm_185]; rfl) (by rw [zm_185]; exact Nat.le_of_ble_eq_true rfl) (Nat.le_of_ble_eq_true rfl) (G_X7_looksAt (by omega) l2 l3 J q6 hq6) rfl ?_
      show zzEv _ _ _ _ [] _ _
      refine ev_iinc (v := 1) zo_186_74 rfl (by decide) (zz_set rfl (by decide) (Nat.le_of_ble_eq_true rfl)) rfl ?_
      show zzEv _ _ _ [.ref 46, .int l1, .int l2, .int (l3 + 1)] _ _ _
      refine ev_goto (t := 40) zo_186_77 rfl ?_
      exact ih l1 l2 (l3 + 1) q6 r h
    rw [if_neg c1] at h
    refine ev_cmp_t (t := 80) zo_186_45 rfl (zcm_ge c1) ?_
    refine ev_iinc (v := 1) zo_186_80 rfl (by decide) (zz_set rfl (by decide) (Nat.le_of_ble_eq_true rfl)) rfl ?_
    show zzEv _ _ _ [.ref 46, .int l1, .int (l2 + 1), .int l3] _ _ _
    refine ev_goto (t := 28) zo_186_83 rfl ?_
    exact hkl_28 l1 (l2 + 1) J r h (.int l3) rfl
def F_X7_change_28 : Nat → Int32 → Int32 → zzJ → Option (Int32 × zzJ)
  | 0, _, _, _ => none
  | n + 1, l1, l2, J => (if l2 < (J.2 46 14) then F_X7_change_40 (F_X7_change_28 n) 4096 l1 l2 (l2 + (1 : Int32)) J else (if l1 = (0 : Int32) then some ((J.2 46 35), J) else some ((J.2 46 36), J)))
set_option maxRecDepth 100000 in
set_option maxHeartbeats 2000000 in
theorem G_X7_change_28 {d : Nat} (hd : 96 ≤ d) : ∀ (n : Nat) (l1 : Int32) (l2 : Int32) (J : zzJ) (r : Int32 × zzJ), F_X7_change_28 n l1 l2 J = some r → ∀ (lv3 : Value) (hlv3 : lv3.category = 1), zzEv d 186 28 [.ref 46, .int l1, .int l2, lv3] [] (zK J) (some (.int r.1), zK r.2) := by
  intro n
  induction n with
  | zero => intro l1 l2 J r h; simp [F_X7_change_28] at h
  | succ n ih =>
    intro l1 l2 J r h lv3 hlv3
    rw [F_X7_change_28] at h
    refine ev_iload_n zo_186_28 rfl rfl rfl ?_
    refine ev_aload_n zo_186_29 rfl rfl rfl rfl ?_
    refine ev_getI zo_186_30 zf_186_85 (by decide) (Or.inl rfl) rfl rfl ?_
    by_cases c7 : l2 < (J.2 46 14)
    · rw [if_pos c7] at h
      refine ev_cmp_f (t := 86) zo_186_33 rfl (zcm_nge c7) rfl ?_
      refine ev_iload_n zo_186_36 rfl rfl rfl ?_
      refine ev_iconst (x := 1) zo_186_37 (by decide) rfl ?_
      refine ev_iadd zo_186_38 rfl ?_
      refine ev_istore_n zo_186_39 rfl (zz_set rfl (by decide) (Nat.le_of_ble_eq_true rfl)) rfl ?_
      show zzEv _ _ _ [.ref 46, .int l1, .int l2, .int (l2 + (1 : Int32))] _ _ _
      exact G_X7_change_40 (F_X7_change_28 n) ih hd 4096 l1 l2 (l2 + (1 : Int32)) J r h
    rw [if_neg c7] at h
    refine ev_cmp_t (t := 86) zo_186_33 rfl (zcm_ge c7) ?_
    refine ev_iload_n zo_186_86 rfl rfl rfl ?_
    by_cases c8 : l1 = (0 : Int32)
    · rw [if_pos c8] at h
      refine ev_if_f (t := 97) zo_186_87 rfl (zcm_nne c8) rfl ?_
      refine ev_aload_n zo_186_90 rfl rfl rfl rfl ?_
      refine ev_getI zo_186_91 zf_186_304 (by decide) (Or.inl rfl) rfl rfl ?_
      refine ev_goto (t := 101) zo_186_94 rfl ?_
      obtain rfl := Option.some.inj h
      exact ev_retI zo_186_101 zr_186
    rw [if_neg c8] at h
    refine ev_if_t (t := 97) zo_186_87 rfl (zcm_ne c8) ?_
    refine ev_aload_n zo_186_97 rfl rfl rfl rfl ?_
    refine ev_getI zo_186_98 zf_186_307 (by decide) (Or.inl rfl) rfl rfl ?_
    obtain rfl := Option.some.inj h
    exact ev_retI zo_186_101 zr_186
def F_X7_change (x1 : Int32) (J : zzJ) : Option (Int32 × zzJ) := (Option.bind (F_X7_in x1.toInt64 (0 : Int64) (1 : Int64) J) fun q9 => (if q9.1 = (0 : Int32) then some ((-2 : Int32), q9.2) else (Option.bind (F_X7_din (wI q9.2 46 35 (-1 : Int32))) fun q11 => F_X7_change_28 4096 x1 (0 : Int32) (wI q11.2 46 36 q11.1))))
set_option maxRecDepth 100000 in
set_option maxHeartbeats 2000000 in
theorem G_X7_change {d : Nat} (hd : 96 ≤ d) (x1 : Int32) (J : zzJ) (r : Int32 × zzJ) (h : F_X7_change x1 J = some r) : zzEv d 186 0 [.ref 46, .int x1, zzU, zzU] [] (zK J) (some (.int r.1), zK r.2) := by
  unfold F_X7_change at h
  refine ev_iload_n zo_186_0 rfl rfl rfl ?_
  refine ev_i2l zo_186_1 rfl ?_
  refine ev_lconst (x := 0) zo_186_2 (by decide) rfl ?_
  refine ev_lconst (x := 1) zo_186_3 (by decide) rfl ?_
  obtain ⟨q9, hq9, h⟩ := zz_bd h
  refine ev_cS (as := [.long (1 : Int64), .long (0 : Int64), .long x1.toInt64]) (lsn := [.long x1.toInt64, zzU, .long (0 : Int64), zzU, .long (1 : Int64), zzU]) (by omega) zo_186_4 zl_186_88 (by decide) (by rw [zm_136]; rfl) (by unfold zzIn; rw [zm_136]; rfl) (by rw [zm_136]; exact Nat.le_of_ble_eq_true rfl) (Nat.le_of_ble_eq_true rfl) (G_X7_in (by omega) x1.toInt64 (0 : Int64) (1 : Int64) J q9 hq9) rfl ?_
  show zzEv _ _ _ _ [.int q9.1] _ _
  by_cases c10 : q9.1 = (0 : Int32)
  · rw [if_pos c10] at h
    refine ev_if_f (t := 13) zo_186_7 rfl (zcm_nne c10) rfl ?_
    refine ev_bipush (x := (-2)) zo_186_10 (by decide) rfl ?_
    obtain rfl := Option.some.inj h
    exact ev_retI zo_186_12 zr_186
  rw [if_neg c10] at h
  refine ev_if_t (t := 13) zo_186_7 rfl (zcm_ne c10) ?_
  refine ev_aload_n zo_186_13 rfl rfl rfl rfl ?_
  refine ev_iconst (x := (-1)) zo_186_14 (by decide) rfl ?_
  refine ev_putI zo_186_15 zf_186_304 (by decide) rfl rfl rfl rfl ?_
  refine ev_aload_n zo_186_18 rfl rfl rfl rfl ?_
  refine ev_aload_n zo_186_19 rfl rfl rfl rfl ?_
  obtain ⟨q11, hq11, h⟩ := zz_bd h
  refine ev_cV (as := []) (lsn := [.ref 46, zzU, zzU]) (by omega) zo_186_20 zl_186_287 (by rw [zm_178]; rfl) (by rw [zm_178]; exact rfl) (by rw [zm_178]; decide) (by unfold zzIn; rw [zm_178]; rfl) (by rw [zm_178]; exact Nat.le_of_ble_eq_true rfl) (Nat.le_of_ble_eq_true rfl) (G_X7_din (by omega) (wI q9.2 46 35 (-1 : Int32)) q11 hq11) rfl ?_
  show zzEv _ _ _ _ [.int q11.1, .ref 46] _ _
  refine ev_putI zo_186_23 zf_186_307 (by decide) rfl rfl rfl rfl ?_
  refine ev_iconst (x := 0) zo_186_26 (by decide) rfl ?_
  refine ev_istore_n zo_186_27 rfl (zz_set rfl (by decide) (Nat.le_of_ble_eq_true rfl)) rfl ?_
  show zzEv _ _ _ [.ref 46, .int x1, .int (0 : Int32), zzU] _ _ _
  exact G_X7_change_28 hd 4096 x1 (0 : Int32) (wI q11.2 46 36 q11.1) r h (zzU) rfl
