/-! the methods as functions, and that they are (written by wip/whole/gen2.py) -/
/-! X6_all -/
def F_X6_all (x1 : Int32) (J : zzJ) : Option (Int32 × zzJ) := (if x1 = 0 then (Option.bind (F_X0_din 7 J) fun q2 => some (q2.1, q2.2)) else (if x1 = 1 then (Option.bind (F_X0_joy 7 J) fun q4 => some (q4.1, q4.2)) else (if x1 = 2 then (Option.bind (F_X0_alone 7 J) fun q6 => some (q6.1, q6.2)) else some ((-100000 : Int32), J))))
set_option maxRecDepth 100000 in
set_option maxHeartbeats 2000000 in
theorem G_X6_all {d : Nat} (hd : 5 ≤ d) (x1 : Int32) (J : zzJ) (r : Int32 × zzJ) (h : F_X6_all x1 J = some r) : zzEv d 91 0 [.ref 0, .int x1] [] (zK J) (some (.int r.1), zK r.2) := by
  unfold F_X6_all at h
  refine ev_iload_n zo_91_0 rfl rfl rfl ?_
  by_cases s1 : x1 = 0
  · rw [if_pos s1] at h
    refine ev_tableIn (t := 28) zo_91_1 s1 rfl ?_
    refine ev_aload_n zo_91_28 rfl rfl rfl rfl ?_
    refine ev_getR zo_91_29 zf_91_28 (by decide) rfl rfl rfl rfl ?_
    obtain ⟨q2, hq2, h⟩ := zz_bd h
    refine ev_cV (as := []) (lsn := [.ref 7, zzU, zzU]) (by omega) zo_91_32 zl_91_150 (by rw [zm_24]; rfl) (by rw [zm_24]; exact rfl) (by rw [zm_24]; decide) (by unfold zzIn; rw [zm_24]; rfl) (by rw [zm_24]; exact Nat.le_of_ble_eq_true rfl) (Nat.le_of_ble_eq_true rfl) (G_X0_din (by omega) 7 J q2 hq2) rfl ?_
    show zzEv _ _ _ _ [.int q2.1] _ _
    obtain rfl := Option.some.inj h
    exact ev_retI zo_91_35 zr_91
  rw [if_neg s1] at h
  by_cases s3 : x1 = 1
  · rw [if_pos s3] at h
    refine ev_tableIn (t := 36) zo_91_1 s3 rfl ?_
    refine ev_aload_n zo_91_36 rfl rfl rfl rfl ?_
    refine ev_getR zo_91_37 zf_91_28 (by decide) rfl rfl rfl rfl ?_
    obtain ⟨q4, hq4, h⟩ := zz_bd h
    refine ev_cV (as := []) (lsn := [.ref 7, zzU, zzU]) (by omega) zo_91_40 zl_91_153 (by rw [zm_25]; rfl) (by rw [zm_25]; exact rfl) (by rw [zm_25]; decide) (by unfold zzIn; rw [zm_25]; rfl) (by rw [zm_25]; exact Nat.le_of_ble_eq_true rfl) (Nat.le_of_ble_eq_true rfl) (G_X0_joy (by omega) 7 J q4 hq4) rfl ?_
    show zzEv _ _ _ _ [.int q4.1] _ _
    obtain rfl := Option.some.inj h
    exact ev_retI zo_91_43 zr_91
  rw [if_neg s3] at h
  by_cases s5 : x1 = 2
  · rw [if_pos s5] at h
    refine ev_tableIn (t := 44) zo_91_1 s5 rfl ?_
    refine ev_aload_n zo_91_44 rfl rfl rfl rfl ?_
    refine ev_getR zo_91_45 zf_91_28 (by decide) rfl rfl rfl rfl ?_
    obtain ⟨q6, hq6, h⟩ := zz_bd h
    refine ev_cV (as := []) (lsn := [.ref 7, zzU, zzU]) (by omega) zo_91_48 zl_91_156 (by rw [zm_27]; rfl) (by rw [zm_27]; exact rfl) (by rw [zm_27]; decide) (by unfold zzIn; rw [zm_27]; rfl) (by rw [zm_27]; exact Nat.le_of_ble_eq_true rfl) (Nat.le_of_ble_eq_true rfl) (G_X0_alone (by omega) 7 J q6 hq6) rfl ?_
    show zzEv _ _ _ _ [.int q6.1] _ _
    obtain rfl := Option.some.inj h
    exact ev_retI zo_91_51 zr_91
  rw [if_neg s5] at h
  refine ev_tableOut (t := 52) zo_91_1 (sw_out 3 rfl fun k hk => ?_) rfl ?_
  · rcases (show k = 0 ∨ k = 1 ∨ k = 2 by omega) with rfl | rfl | rfl
    · exact sw_ne s1 (by decide)
    · exact sw_ne s3 (by decide)
    · exact sw_ne s5 (by decide)
  refine ev_ldcI zo_91_52 zc_91_159n zc_91_159 rfl ?_
  obtain rfl := Option.some.inj h
  exact ev_retI zo_91_54 zr_91
/-! X6_isRide -/
def F_X6_isRide (x0 : Int32) (J : zzJ) : Option (Int32 × zzJ) := (if x0 < (0 : Int32) then some ((0 : Int32), J) else (if (60 : Int32) < x0 then some ((0 : Int32), J) else some ((1 : Int32), J)))
set_option maxRecDepth 100000 in
set_option maxHeartbeats 2000000 in
theorem G_X6_isRide {d : Nat} (hd : 0 ≤ d) (x0 : Int32) (J : zzJ) (r : Int32 × zzJ) (h : F_X6_isRide x0 J = some r) : zzEv d 93 0 [.int x0] [] (zK J) (some (.int r.1), zK r.2) := by
  unfold F_X6_isRide at h
  refine ev_iload_n zo_93_0 rfl rfl rfl ?_
  by_cases c1 : x0 < (0 : Int32)
  · rw [if_pos c1] at h
    refine ev_if_t (t := 14) zo_93_1 rfl (zcm_lt c1) ?_
    refine ev_iconst (x := 0) zo_93_14 (by decide) rfl ?_
    obtain rfl := Option.some.inj h
    exact ev_retZ zo_93_15 zr_93 (Or.inl rfl)
  rw [if_neg c1] at h
  refine ev_if_f (t := 14) zo_93_1 rfl (zcm_nlt c1) rfl ?_
  refine ev_iload_n zo_93_4 rfl rfl rfl ?_
  refine ev_bipush (x := 60) zo_93_5 (by decide) rfl ?_
  by_cases c2 : (60 : Int32) < x0
  · rw [if_pos c2] at h
    refine ev_cmp_t (t := 14) zo_93_7 rfl (zcm_gt c2) ?_
    refine ev_iconst (x := 0) zo_93_14 (by decide) rfl ?_
    obtain rfl := Option.some.inj h
    exact ev_retZ zo_93_15 zr_93 (Or.inl rfl)
  rw [if_neg c2] at h
  refine ev_cmp_f (t := 14) zo_93_7 rfl (zcm_ngt c2) rfl ?_
  refine ev_iconst (x := 1) zo_93_10 (by decide) rfl ?_
  refine ev_goto (t := 15) zo_93_11 rfl ?_
  obtain rfl := Option.some.inj h
  exact ev_retZ zo_93_15 zr_93 (Or.inr rfl)
/-! X6_ride -/
def F_X6_ride_67 (l1 : Int32) (l2 : Int32) (l3 : Int32) (J : zzJ) : Option (Int32 × zzJ) := (Option.bind (F_X3_plan 7 l1 J) fun q1 => (Option.bind (F_X3_sick (-1 : Int32) q1) fun q2 => (if l3 = (0 : Int32) then (if l2 < (20 : Int32) then (Option.bind (F_X6_itemAt 31 (zRem l2 (10 : Int32)) q2.2) fun q6 => some (q6.1, q6.2)) else (Option.bind (F_X6_itemAt 32 (zRem l2 (10 : Int32)) q2.2) fun q5 => some (q5.1, q5.2))) else (if l2 = (0 : Int32) then some (q2.1, q2.2) else (Option.bind (F_X3_firstSick q2.2) fun q8 => some (q8.1, q8.2))))))
set_option maxRecDepth 100000 in
set_option maxHeartbeats 2000000 in
theorem G_X6_ride_67 {d : Nat} (hd : 5 ≤ d) : ∀ (l1 : Int32) (l2 : Int32) (l3 : Int32) (J : zzJ) (r : Int32 × zzJ), F_X6_ride_67 l1 l2 l3 J = some r → ∀ (lv4 : Value) (hlv4 : lv4.category = 1), zzEv d 92 67 [.ref 0, .int l1, .int l2, .int l3, lv4, zzU] [] (zK J) (some (.int r.1), zK r.2) := by
  intro l1 l2 l3 J r h lv4 hlv4
  unfold F_X6_ride_67 at h
  refine ev_aload_n zo_92_67 rfl rfl rfl rfl ?_
  refine ev_getR zo_92_68 zf_92_45 (by decide) rfl rfl rfl rfl ?_
  refine ev_aload_n zo_92_71 rfl rfl rfl rfl ?_
  refine ev_getR zo_92_72 zf_92_28 (by decide) rfl rfl rfl rfl ?_
  refine ev_iload_n zo_92_75 rfl rfl rfl ?_
  obtain ⟨q1, hq1, h⟩ := zz_bd h
  refine ev_cV (as := [.int l1, .ref 7]) (lsn := [.ref 28, .ref 7, .int l1, zzU, zzU]) (by omega) zo_92_76 zl_92_163 (by rw [zm_62]; rfl) (by rw [zm_62]; exact rfl) (by rw [zm_62]; decide) (by unfold zzIn; rw [zm_62]; rfl) (by rw [zm_62]; exact Nat.le_of_ble_eq_true rfl) (Nat.le_of_ble_eq_true rfl) (G_X3_plan (by omega) 7 l1 J q1 hq1) rfl ?_
  show zzEv _ _ _ _ [] _ _
  refine ev_aload_n zo_92_79 rfl rfl rfl rfl ?_
  refine ev_getR zo_92_80 zf_92_45 (by decide) rfl rfl rfl rfl ?_
  refine ev_iconst (x := (-1)) zo_92_83 (by decide) rfl ?_
  obtain ⟨q2, hq2, h⟩ := zz_bd h
  refine ev_cV (as := [.int (-1 : Int32)]) (lsn := [.ref 28, .int (-1 : Int32), zzU, zzU]) (by omega) zo_92_84 zl_92_167 (by rw [zm_63]; rfl) (by rw [zm_63]; exact rfl) (by rw [zm_63]; decide) (by unfold zzIn; rw [zm_63]; rfl) (by rw [zm_63]; exact Nat.le_of_ble_eq_true rfl) (Nat.le_of_ble_eq_true rfl) (G_X3_sick (by omega) (-1 : Int32) q1 q2 hq2) rfl ?_
  show zzEv _ _ _ _ [.int q2.1] _ _
  refine ev_istore zo_92_87 (zz_set (zz_lg (j := 4) rfl hlv4) (by decide) (Nat.le_of_ble_eq_true rfl)) rfl ?_
  show zzEv _ _ _ [.ref 0, .int l1, .int l2, .int l3, lv4, .int q2.1] _ _ _
  refine ev_iload_n zo_92_89 rfl rfl rfl ?_
  by_cases c3 : l3 = (0 : Int32)
  · rw [if_pos c3] at h
    refine ev_if_t (t := 110) zo_92_90 rfl (zcm_eq c3) ?_
    refine ev_iload_n zo_92_110 rfl rfl rfl ?_
    refine ev_bipush (x := 20) zo_92_111 (by decide) rfl ?_
    by_cases c4 : l2 < (20 : Int32)
    · rw [if_pos c4] at h
      refine ev_cmp_f (t := 126) zo_92_113 rfl (zcm_nge c4) rfl ?_
      refine ev_aload_n zo_92_116 rfl rfl rfl rfl ?_
      refine ev_getR zo_92_117 zf_92_45 (by decide) rfl rfl rfl rfl ?_
      refine ev_getR zo_92_120 zf_92_173 (by decide) rfl rfl rfl rfl ?_
      refine ev_goto (t := 133) zo_92_123 rfl ?_
      refine ev_iload_n zo_92_133 rfl rfl rfl ?_
      refine ev_bipush (x := 10) zo_92_134 (by decide) rfl ?_
      refine ev_irem zo_92_136 (by decide) rfl ?_
      obtain ⟨q6, hq6, h⟩ := zz_bd h
      refine ev_cS (as := [.int (zRem l2 (10 : Int32)), .ref 31]) (lsn := [.ref 31, .int (zRem l2 (10 : Int32))]) (by omega) zo_92_137 zl_92_179 (by decide) (by rw [zm_125]; rfl) (by unfold zzIn; rw [zm_125]; rfl) (by rw [zm_125]; exact Nat.le_of_ble_eq_true rfl) (Nat.le_of_ble_eq_true rfl) (G_X6_itemAt (by omega) 31 (zRem l2 (10 : Int32)) q2.2 q6 hq6) rfl ?_
      show zzEv _ _ _ _ [.int q6.1] _ _
      obtain rfl := Option.some.inj h
      exact ev_retI zo_92_140 zr_92
    rw [if_neg c4] at h
    refine ev_cmp_t (t := 126) zo_92_113 rfl (zcm_ge c4) ?_
    refine ev_aload_n zo_92_126 rfl rfl rfl rfl ?_
    refine ev_getR zo_92_127 zf_92_45 (by decide) rfl rfl rfl rfl ?_
    refine ev_getR zo_92_130 zf_92_176 (by decide) rfl rfl rfl rfl ?_
    refine ev_iload_n zo_92_133 rfl rfl rfl ?_
    refine ev_bipush (x := 10) zo_92_134 (by decide) rfl ?_
    refine ev_irem zo_92_136 (by decide) rfl ?_
    obtain ⟨q5, hq5, h⟩ := zz_bd h
    refine ev_cS (as := [.int (zRem l2 (10 : Int32)), .ref 32]) (lsn := [.ref 32, .int (zRem l2 (10 : Int32))]) (by omega) zo_92_137 zl_92_179 (by decide) (by rw [zm_125]; rfl) (by unfold zzIn; rw [zm_125]; rfl) (by rw [zm_125]; exact Nat.le_of_ble_eq_true rfl) (Nat.le_of_ble_eq_true rfl) (G_X6_itemAt (by omega) 32 (zRem l2 (10 : Int32)) q2.2 q5 hq5) rfl ?_
    show zzEv _ _ _ _ [.int q5.1] _ _
    obtain rfl := Option.some.inj h
    exact ev_retI zo_92_140 zr_92
  rw [if_neg c3] at h
  refine ev_if_f (t := 110) zo_92_90 rfl (zcm_neq c3) rfl ?_
  refine ev_iload_n zo_92_93 rfl rfl rfl ?_
  by_cases c7 : l2 = (0 : Int32)
  · rw [if_pos c7] at h
    refine ev_if_f (t := 102) zo_92_94 rfl (zcm_nne c7) rfl ?_
    refine ev_iload zo_92_97 rfl rfl ?_
    refine ev_goto (t := 109) zo_92_99 rfl ?_
    obtain rfl := Option.some.inj h
    exact ev_retI zo_92_109 zr_92
  rw [if_neg c7] at h
  refine ev_if_t (t := 102) zo_92_94 rfl (zcm_ne c7) ?_
  refine ev_aload_n zo_92_102 rfl rfl rfl rfl ?_
  refine ev_getR zo_92_103 zf_92_45 (by decide) rfl rfl rfl rfl ?_
  obtain ⟨q8, hq8, h⟩ := zz_bd h
  refine ev_cV (as := []) (lsn := [.ref 28, zzU, zzU]) (by omega) zo_92_106 zl_92_170 (by rw [zm_66]; rfl) (by rw [zm_66]; exact rfl) (by rw [zm_66]; decide) (by unfold zzIn; rw [zm_66]; rfl) (by rw [zm_66]; exact Nat.le_of_ble_eq_true rfl) (Nat.le_of_ble_eq_true rfl) (G_X3_firstSick (by omega) q2.2 q8 hq8) rfl ?_
  show zzEv _ _ _ _ [.int q8.1] _ _
  obtain rfl := Option.some.inj h
  exact ev_retI zo_92_109 zr_92
def F_X6_ride_46 (l1 : Int32) (l2 : Int32) (l3 : Int32) (t0 : Int32) (J : zzJ) : Option (Int32 × zzJ) := (Option.bind (F_X6_isRide l1 J) fun q9 => (if q9.1 = (0 : Int32) then some ((-2 : Int32), q9.2) else (if l3 = (0 : Int32) then (if t0 = (0 : Int32) then some ((-2 : Int32), q9.2) else F_X6_ride_67 l1 l2 l3 q9.2) else F_X6_ride_67 l1 l2 l3 q9.2)))
set_option maxRecDepth 100000 in
set_option maxHeartbeats 2000000 in
theorem G_X6_ride_46 {d : Nat} (hd : 5 ≤ d) : ∀ (l1 : Int32) (l2 : Int32) (l3 : Int32) (t0 : Int32) (J : zzJ) (r : Int32 × zzJ), F_X6_ride_46 l1 l2 l3 t0 J = some r → zzEv d 92 46 [.ref 0, .int l1, .int l2, .int l3, zzU, zzU] [.int t0] (zK J) (some (.int r.1), zK r.2) := by
  intro l1 l2 l3 t0 J r h
  unfold F_X6_ride_46 at h
  refine ev_istore zo_92_46 (zz_set rfl (by decide) (Nat.le_of_ble_eq_true rfl)) rfl ?_
  show zzEv _ _ _ [.ref 0, .int l1, .int l2, .int l3, .int t0, zzU] _ _ _
  refine ev_iload_n zo_92_48 rfl rfl rfl ?_
  obtain ⟨q9, hq9, h⟩ := zz_bd h
  refine ev_cS (as := [.int l1]) (lsn := [.int l1]) (by omega) zo_92_49 zl_92_160 (by decide) (by rw [zm_93]; rfl) (by unfold zzIn; rw [zm_93]; rfl) (by rw [zm_93]; exact Nat.le_of_ble_eq_true rfl) (Nat.le_of_ble_eq_true rfl) (G_X6_isRide (by omega) l1 J q9 hq9) rfl ?_
  show zzEv _ _ _ _ [.int q9.1] _ _
  by_cases c10 : q9.1 = (0 : Int32)
  · rw [if_pos c10] at h
    refine ev_if_t (t := 64) zo_92_52 rfl (zcm_eq c10) ?_
    refine ev_bipush (x := (-2)) zo_92_64 (by decide) rfl ?_
    obtain rfl := Option.some.inj h
    exact ev_retI zo_92_66 zr_92
  rw [if_neg c10] at h
  refine ev_if_f (t := 64) zo_92_52 rfl (zcm_neq c10) rfl ?_
  refine ev_iload_n zo_92_55 rfl rfl rfl ?_
  by_cases c11 : l3 = (0 : Int32)
  · rw [if_pos c11] at h
    refine ev_if_f (t := 67) zo_92_56 rfl (zcm_nne c11) rfl ?_
    refine ev_iload zo_92_59 rfl rfl ?_
    by_cases c12 : t0 = (0 : Int32)
    · rw [if_pos c12] at h
      refine ev_if_f (t := 67) zo_92_61 rfl (zcm_nne c12) rfl ?_
      refine ev_bipush (x := (-2)) zo_92_64 (by decide) rfl ?_
      obtain rfl := Option.some.inj h
      exact ev_retI zo_92_66 zr_92
    rw [if_neg c12] at h
    refine ev_if_t (t := 67) zo_92_61 rfl (zcm_ne c12) ?_
    exact G_X6_ride_67 hd l1 l2 l3 q9.2 r h (.int t0) rfl
  rw [if_neg c11] at h
  refine ev_if_t (t := 67) zo_92_56 rfl (zcm_ne c11) ?_
  exact G_X6_ride_67 hd l1 l2 l3 q9.2 r h (.int t0) rfl
def F_X6_ride_45 (l1 : Int32) (l2 : Int32) (l3 : Int32) (J : zzJ) : Option (Int32 × zzJ) := F_X6_ride_46 l1 l2 l3 (0 : Int32) J
set_option maxRecDepth 100000 in
set_option maxHeartbeats 2000000 in
theorem G_X6_ride_45 {d : Nat} (hd : 5 ≤ d) : ∀ (l1 : Int32) (l2 : Int32) (l3 : Int32) (J : zzJ) (r : Int32 × zzJ), F_X6_ride_45 l1 l2 l3 J = some r → zzEv d 92 45 [.ref 0, .int l1, .int l2, .int l3, zzU, zzU] [] (zK J) (some (.int r.1), zK r.2) := by
  intro l1 l2 l3 J r h
  unfold F_X6_ride_45 at h
  refine ev_iconst (x := 0) zo_92_45 (by decide) rfl ?_
  exact G_X6_ride_46 hd l1 l2 l3 (0 : Int32) J r h
def F_X6_ride_14 (l1 : Int32) (l2 : Int32) (t0 : Int32) (J : zzJ) : Option (Int32 × zzJ) := (if l2 < (10 : Int32) then F_X6_ride_45 l1 l2 t0 J else (if l2 < (30 : Int32) then (Option.bind (F_X0_has 7 (zRem l2 (10 : Int32)) J) fun q15 => (if q15.1 = (0 : Int32) then F_X6_ride_45 l1 l2 t0 q15.2 else F_X6_ride_46 l1 l2 t0 (1 : Int32) q15.2)) else F_X6_ride_45 l1 l2 t0 J))
set_option maxRecDepth 100000 in
set_option maxHeartbeats 2000000 in
theorem G_X6_ride_14 {d : Nat} (hd : 5 ≤ d) : ∀ (l1 : Int32) (l2 : Int32) (t0 : Int32) (J : zzJ) (r : Int32 × zzJ), F_X6_ride_14 l1 l2 t0 J = some r → zzEv d 92 14 [.ref 0, .int l1, .int l2, zzU, zzU, zzU] [.int t0] (zK J) (some (.int r.1), zK r.2) := by
  intro l1 l2 t0 J r h
  unfold F_X6_ride_14 at h
  refine ev_istore_n zo_92_14 rfl (zz_set rfl (by decide) (Nat.le_of_ble_eq_true rfl)) rfl ?_
  show zzEv _ _ _ [.ref 0, .int l1, .int l2, .int t0, zzU, zzU] _ _ _
  refine ev_iload_n zo_92_15 rfl rfl rfl ?_
  refine ev_bipush (x := 10) zo_92_16 (by decide) rfl ?_
  by_cases c13 : l2 < (10 : Int32)
  · rw [if_pos c13] at h
    refine ev_cmp_t (t := 45) zo_92_18 rfl (zcm_lt c13) ?_
    exact G_X6_ride_45 hd l1 l2 t0 J r h
  rw [if_neg c13] at h
  refine ev_cmp_f (t := 45) zo_92_18 rfl (zcm_nlt c13) rfl ?_
  refine ev_iload_n zo_92_21 rfl rfl rfl ?_
  refine ev_bipush (x := 30) zo_92_22 (by decide) rfl ?_
  by_cases c14 : l2 < (30 : Int32)
  · rw [if_pos c14] at h
    refine ev_cmp_f (t := 45) zo_92_24 rfl (zcm_nge c14) rfl ?_
    refine ev_aload_n zo_92_27 rfl rfl rfl rfl ?_
    refine ev_getR zo_92_28 zf_92_28 (by decide) rfl rfl rfl rfl ?_
    refine ev_iload_n zo_92_31 rfl rfl rfl ?_
    refine ev_bipush (x := 10) zo_92_32 (by decide) rfl ?_
    refine ev_irem zo_92_34 (by decide) rfl ?_
    obtain ⟨q15, hq15, h⟩ := zz_bd h
    refine ev_cV (as := [.int (zRem l2 (10 : Int32))]) (lsn := [.ref 7, .int (zRem l2 (10 : Int32))]) (by omega) zo_92_35 zl_92_86 (by rw [zm_2]; rfl) (by rw [zm_2]; exact rfl) (by rw [zm_2]; decide) (by unfold zzIn; rw [zm_2]; rfl) (by rw [zm_2]; exact Nat.le_of_ble_eq_true rfl) (Nat.le_of_ble_eq_true rfl) (G_X0_has (by omega) 7 (zRem l2 (10 : Int32)) J q15 hq15) rfl ?_
    show zzEv _ _ _ _ [.int q15.1] _ _
    by_cases c16 : q15.1 = (0 : Int32)
    · rw [if_pos c16] at h
      refine ev_if_t (t := 45) zo_92_38 rfl (zcm_eq c16) ?_
      exact G_X6_ride_45 hd l1 l2 t0 q15.2 r h
    rw [if_neg c16] at h
    refine ev_if_f (t := 45) zo_92_38 rfl (zcm_neq c16) rfl ?_
    refine ev_iconst (x := 1) zo_92_41 (by decide) rfl ?_
    refine ev_goto (t := 46) zo_92_42 rfl ?_
    exact G_X6_ride_46 hd l1 l2 t0 (1 : Int32) q15.2 r h
  rw [if_neg c14] at h
  refine ev_cmp_t (t := 45) zo_92_24 rfl (zcm_ge c14) ?_
  exact G_X6_ride_45 hd l1 l2 t0 J r h
def F_X6_ride_9 (l1 : Int32) (l2 : Int32) (J : zzJ) : Option (Int32 × zzJ) := F_X6_ride_14 l1 l2 (1 : Int32) J
set_option maxRecDepth 100000 in
set_option maxHeartbeats 2000000 in
theorem G_X6_ride_9 {d : Nat} (hd : 5 ≤ d) : ∀ (l1 : Int32) (l2 : Int32) (J : zzJ) (r : Int32 × zzJ), F_X6_ride_9 l1 l2 J = some r → zzEv d 92 9 [.ref 0, .int l1, .int l2, zzU, zzU, zzU] [] (zK J) (some (.int r.1), zK r.2) := by
  intro l1 l2 J r h
  unfold F_X6_ride_9 at h
  refine ev_iconst (x := 1) zo_92_9 (by decide) rfl ?_
  refine ev_goto (t := 14) zo_92_10 rfl ?_
  exact G_X6_ride_14 hd l1 l2 (1 : Int32) J r h
def F_X6_ride (x1 : Int32) (x2 : Int32) (J : zzJ) : Option (Int32 × zzJ) := (if x2 = (0 : Int32) then F_X6_ride_9 x1 x2 J else (if x2 = (1 : Int32) then F_X6_ride_9 x1 x2 J else F_X6_ride_14 x1 x2 (0 : Int32) J))
set_option maxRecDepth 100000 in
set_option maxHeartbeats 2000000 in
theorem G_X6_ride {d : Nat} (hd : 5 ≤ d) (x1 : Int32) (x2 : Int32) (J : zzJ) (r : Int32 × zzJ) (h : F_X6_ride x1 x2 J = some r) : zzEv d 92 0 [.ref 0, .int x1, .int x2, zzU, zzU, zzU] [] (zK J) (some (.int r.1), zK r.2) := by
  unfold F_X6_ride at h
  refine ev_iload_n zo_92_0 rfl rfl rfl ?_
  by_cases c17 : x2 = (0 : Int32)
  · rw [if_pos c17] at h
    refine ev_if_t (t := 9) zo_92_1 rfl (zcm_eq c17) ?_
    exact G_X6_ride_9 hd x1 x2 J r h
  rw [if_neg c17] at h
  refine ev_if_f (t := 9) zo_92_1 rfl (zcm_neq c17) rfl ?_
  refine ev_iload_n zo_92_4 rfl rfl rfl ?_
  refine ev_iconst (x := 1) zo_92_5 (by decide) rfl ?_
  by_cases c18 : x2 = (1 : Int32)
  · rw [if_pos c18] at h
    refine ev_cmp_f (t := 13) zo_92_6 rfl (zcm_nne c18) rfl ?_
    exact G_X6_ride_9 hd x1 x2 J r h
  rw [if_neg c18] at h
  refine ev_cmp_t (t := 13) zo_92_6 rfl (zcm_ne c18) ?_
  refine ev_iconst (x := 0) zo_92_13 (by decide) rfl ?_
  exact G_X6_ride_14 hd x1 x2 (0 : Int32) J r h
/-! X6_isZeroOrOne -/
def F_X6_isZeroOrOne (x0 : Int32) (J : zzJ) : Option (Int32 × zzJ) := (if x0 = (0 : Int32) then some ((1 : Int32), J) else (if x0 = (1 : Int32) then some ((1 : Int32), J) else some ((0 : Int32), J)))
set_option maxRecDepth 100000 in
set_option maxHeartbeats 2000000 in
theorem G_X6_isZeroOrOne {d : Nat} (hd : 0 ≤ d) (x0 : Int32) (J : zzJ) (r : Int32 × zzJ) (h : F_X6_isZeroOrOne x0 J = some r) : zzEv d 100 0 [.int x0] [] (zK J) (some (.int r.1), zK r.2) := by
  unfold F_X6_isZeroOrOne at h
  refine ev_iload_n zo_100_0 rfl rfl rfl ?_
  by_cases c1 : x0 = (0 : Int32)
  · rw [if_pos c1] at h
    refine ev_if_t (t := 9) zo_100_1 rfl (zcm_eq c1) ?_
    refine ev_iconst (x := 1) zo_100_9 (by decide) rfl ?_
    refine ev_goto (t := 14) zo_100_10 rfl ?_
    obtain rfl := Option.some.inj h
    exact ev_retZ zo_100_14 zr_100 (Or.inr rfl)
  rw [if_neg c1] at h
  refine ev_if_f (t := 9) zo_100_1 rfl (zcm_neq c1) rfl ?_
  refine ev_iload_n zo_100_4 rfl rfl rfl ?_
  refine ev_iconst (x := 1) zo_100_5 (by decide) rfl ?_
  by_cases c2 : x0 = (1 : Int32)
  · rw [if_pos c2] at h
    refine ev_cmp_f (t := 13) zo_100_6 rfl (zcm_nne c2) rfl ?_
    refine ev_iconst (x := 1) zo_100_9 (by decide) rfl ?_
    refine ev_goto (t := 14) zo_100_10 rfl ?_
    obtain rfl := Option.some.inj h
    exact ev_retZ zo_100_14 zr_100 (Or.inr rfl)
  rw [if_neg c2] at h
  refine ev_cmp_t (t := 13) zo_100_6 rfl (zcm_ne c2) ?_
  refine ev_iconst (x := 0) zo_100_13 (by decide) rfl ?_
  obtain rfl := Option.some.inj h
  exact ev_retZ zo_100_14 zr_100 (Or.inl rfl)
/-! X6_dinMoved -/
def F_X6_dinMoved (x1 : Int32) (x2 : Int32) (J : zzJ) : Option (Int32 × zzJ) := (Option.bind (F_X0_take 14 7 J) fun q1 => (Option.bind (F_X0_move 14 x1 x2 q1) fun q2 => (Option.bind (F_X0_din 14 q2) fun q3 => some (q3.1, q3.2))))
set_option maxRecDepth 100000 in
set_option maxHeartbeats 2000000 in
theorem G_X6_dinMoved {d : Nat} (hd : 5 ≤ d) (x1 : Int32) (x2 : Int32) (J : zzJ) (r : Int32 × zzJ) (h : F_X6_dinMoved x1 x2 J = some r) : zzEv d 101 0 [.ref 0, .int x1, .int x2] [] (zK J) (some (.int r.1), zK r.2) := by
  unfold F_X6_dinMoved at h
  refine ev_aload_n zo_101_0 rfl rfl rfl rfl ?_
  refine ev_getR zo_101_1 zf_101_32 (by decide) rfl rfl rfl rfl ?_
  refine ev_aload_n zo_101_4 rfl rfl rfl rfl ?_
  refine ev_getR zo_101_5 zf_101_28 (by decide) rfl rfl rfl rfl ?_
  obtain ⟨q1, hq1, h⟩ := zz_bd h
  refine ev_cV (as := [.ref 7]) (lsn := [.ref 14, .ref 7]) (by omega) zo_101_8 zl_101_216 (by rw [zm_1]; rfl) (by rw [zm_1]; exact rfl) (by rw [zm_1]; decide) (by unfold zzIn; rw [zm_1]; rfl) (by rw [zm_1]; exact Nat.le_of_ble_eq_true rfl) (Nat.le_of_ble_eq_true rfl) (G_X0_take (by omega) 14 7 J q1 hq1) rfl ?_
  show zzEv _ _ _ _ [] _ _
  refine ev_aload_n zo_101_11 rfl rfl rfl rfl ?_
  refine ev_getR zo_101_12 zf_101_32 (by decide) rfl rfl rfl rfl ?_
  refine ev_iload_n zo_101_15 rfl rfl rfl ?_
  refine ev_iload_n zo_101_16 rfl rfl rfl ?_
  obtain ⟨q2, hq2, h⟩ := zz_bd h
  refine ev_cV (as := [.int x2, .int x1]) (lsn := [.ref 14, .int x1, .int x2]) (by omega) zo_101_17 zl_101_120 (by rw [zm_11]; rfl) (by rw [zm_11]; exact rfl) (by rw [zm_11]; decide) (by unfold zzIn; rw [zm_11]; rfl) (by rw [zm_11]; exact Nat.le_of_ble_eq_true rfl) (Nat.le_of_ble_eq_true rfl) (G_X0_move (by omega) 14 x1 x2 q1 q2 hq2) rfl ?_
  show zzEv _ _ _ _ [] _ _
  refine ev_aload_n zo_101_20 rfl rfl rfl rfl ?_
  refine ev_getR zo_101_21 zf_101_32 (by decide) rfl rfl rfl rfl ?_
  obtain ⟨q3, hq3, h⟩ := zz_bd h
  refine ev_cV (as := []) (lsn := [.ref 14, zzU, zzU]) (by omega) zo_101_24 zl_101_150 (by rw [zm_24]; rfl) (by rw [zm_24]; exact rfl) (by rw [zm_24]; decide) (by unfold zzIn; rw [zm_24]; rfl) (by rw [zm_24]; exact Nat.le_of_ble_eq_true rfl) (Nat.le_of_ble_eq_true rfl) (G_X0_din (by omega) 14 q2 q3 hq3) rfl ?_
  show zzEv _ _ _ _ [.int q3.1] _ _
  obtain rfl := Option.some.inj h
  exact ev_retI zo_101_27 zr_101
/-! X6_best -/
def F_X6_best_29 : Nat → Int32 → Int32 → Int32 → Int32 → Int32 → zzJ → Option (Int32 × zzJ)
  | 0, _, _, _, _, _, _ => none
  | n + 1, l1, l2, l3, l4, l5, J => (if l5 < (24 : Int32) then (Option.bind (F_X0_isOpen 7 l5 l1 J) fun q3 => (if q3.1 = (0 : Int32) then F_X6_best_29 n l1 l2 l3 l4 (l5 + 1) q3.2 else (Option.bind (F_X6_dinMoved l1 l5 q3.2) fun q5 => (if l3 = (-1 : Int32) then F_X6_best_29 n l1 l2 l5 q5.1 (l5 + 1) q5.2 else (if q5.1 < l4 then F_X6_best_29 n l1 l2 l5 q5.1 (l5 + 1) q5.2 else F_X6_best_29 n l1 l2 l3 l4 (l5 + 1) q5.2))))) else (if l2 = (0 : Int32) then some (l3, J) else some (l4, J)))
set_option maxRecDepth 100000 in
set_option maxHeartbeats 2000000 in
theorem G_X6_best_29 {d : Nat} (hd : 6 ≤ d) : ∀ (n : Nat) (l1 : Int32) (l2 : Int32) (l3 : Int32) (l4 : Int32) (l5 : Int32) (J : zzJ) (r : Int32 × zzJ), F_X6_best_29 n l1 l2 l3 l4 l5 J = some r → ∀ (lv6 : Value) (hlv6 : lv6.category = 1), zzEv d 94 29 [.ref 0, .int l1, .int l2, .int l3, .int l4, .int l5, lv6] [] (zK J) (some (.int r.1), zK r.2) := by
  intro n
  induction n with
  | zero => intro l1 l2 l3 l4 l5 J r h; simp [F_X6_best_29] at h
  | succ n ih =>
    intro l1 l2 l3 l4 l5 J r h lv6 hlv6
    rw [F_X6_best_29] at h
    refine ev_iload zo_94_29 rfl rfl ?_
    refine ev_bipush (x := 24) zo_94_31 (by decide) rfl ?_
    by_cases c1 : l5 < (24 : Int32)
    · rw [if_pos c1] at h
      refine ev_cmp_f (t := 83) zo_94_33 rfl (zcm_nge c1) rfl ?_
      refine ev_aload_n zo_94_36 rfl rfl rfl rfl ?_
      refine ev_getR zo_94_37 zf_94_28 (by decide) rfl rfl rfl rfl ?_
      refine ev_iload zo_94_40 rfl rfl ?_
      refine ev_iload_n zo_94_42 rfl rfl rfl ?_
      obtain ⟨q3, hq3, h⟩ := zz_bd h
      refine ev_cV (as := [.int l1, .int l5]) (lsn := [.ref 7, .int l5, .int l1, zzU]) (by omega) zo_94_43 zl_94_186 (by rw [zm_10]; rfl) (by rw [zm_10]; exact rfl) (by rw [zm_10]; decide) (by unfold zzIn; rw [zm_10]; rfl) (by rw [zm_10]; exact Nat.le_of_ble_eq_true rfl) (Nat.le_of_ble_eq_true rfl) (G_X0_isOpen (by omega) 7 l5 l1 J q3 hq3) rfl ?_
      show zzEv _ _ _ _ [.int q3.1] _ _
      by_cases c4 : q3.1 = (0 : Int32)
      · rw [if_pos c4] at h
        refine ev_if_t (t := 77) zo_94_46 rfl (zcm_eq c4) ?_
        refine ev_iinc (v := 1) zo_94_77 rfl (by decide) (zz_set rfl (by decide) (Nat.le_of_ble_eq_true rfl)) rfl ?_
        show zzEv _ _ _ [.ref 0, .int l1, .int l2, .int l3, .int l4, .int (l5 + 1), lv6] _ _ _
        refine ev_goto (t := 29) zo_94_80 rfl ?_
        exact ih l1 l2 l3 l4 (l5 + 1) q3.2 r h (lv6) hlv6
      rw [if_neg c4] at h
      refine ev_if_f (t := 77) zo_94_46 rfl (zcm_neq c4) rfl ?_
      refine ev_aload_n zo_94_49 rfl rfl rfl rfl ?_
      refine ev_iload_n zo_94_50 rfl rfl rfl ?_
      refine ev_iload zo_94_51 rfl rfl ?_
      obtain ⟨q5, hq5, h⟩ := zz_bd h
      refine ev_cV (as := [.int l5, .int l1]) (lsn := [.ref 0, .int l1, .int l5]) (by omega) zo_94_53 zl_94_190 (by rw [zm_101]; rfl) (by rw [zm_101]; exact rfl) (by rw [zm_101]; decide) (by unfold zzIn; rw [zm_101]; rfl) (by rw [zm_101]; exact Nat.le_of_ble_eq_true rfl) (Nat.le_of_ble_eq_true rfl) (G_X6_dinMoved (by omega) l1 l5 q3.2 q5 hq5) rfl ?_
      show zzEv _ _ _ _ [.int q5.1] _ _
      refine ev_istore zo_94_56 (zz_set rfl (by decide) (Nat.le_of_ble_eq_true rfl)) rfl ?_
      show zzEv _ _ _ [.ref 0, .int l1, .int l2, .int l3, .int l4, .int l5, .int q5.1] _ _ _
      refine ev_iload_n zo_94_58 rfl rfl rfl ?_
      refine ev_iconst (x := (-1)) zo_94_59 (by decide) rfl ?_
      by_cases c6 : l3 = (-1 : Int32)
      · rw [if_pos c6] at h
        refine ev_cmp_t (t := 70) zo_94_60 rfl (zcm_eq c6) ?_
        refine ev_iload zo_94_70 rfl rfl ?_
        refine ev_istore_n zo_94_72 rfl (zz_set rfl (by decide) (Nat.le_of_ble_eq_true rfl)) rfl ?_
        show zzEv _ _ _ [.ref 0, .int l1, .int l2, .int l5, .int l4, .int l5, .int q5.1] _ _ _
        refine ev_iload zo_94_73 rfl rfl ?_
        refine ev_istore zo_94_75 (zz_set rfl (by decide) (Nat.le_of_ble_eq_true rfl)) rfl ?_
        show zzEv _ _ _ [.ref 0, .int l1, .int l2, .int l5, .int q5.1, .int l5, .int q5.1] _ _ _
        refine ev_iinc (v := 1) zo_94_77 rfl (by decide) (zz_set rfl (by decide) (Nat.le_of_ble_eq_true rfl)) rfl ?_
        show zzEv _ _ _ [.ref 0, .int l1, .int l2, .int l5, .int q5.1, .int (l5 + 1), .int q5.1] _ _ _
        refine ev_goto (t := 29) zo_94_80 rfl ?_
        exact ih l1 l2 l5 q5.1 (l5 + 1) q5.2 r h (.int q5.1) rfl
      rw [if_neg c6] at h
      refine ev_cmp_f (t := 70) zo_94_60 rfl (zcm_neq c6) rfl ?_
      refine ev_iload zo_94_63 rfl rfl ?_
      refine ev_iload zo_94_65 rfl rfl ?_
      by_cases c7 : q5.1 < l4
      · rw [if_pos c7] at h
        refine ev_cmp_f (t := 77) zo_94_67 rfl (zcm_nge c7) rfl ?_
        refine ev_iload zo_94_70 rfl rfl ?_
        refine ev_istore_n zo_94_72 rfl (zz_set rfl (by decide) (Nat.le_of_ble_eq_true rfl)) rfl ?_
        show zzEv _ _ _ [.ref 0, .int l1, .int l2, .int l5, .int l4, .int l5, .int q5.1] _ _ _
        refine ev_iload zo_94_73 rfl rfl ?_
        refine ev_istore zo_94_75 (zz_set rfl (by decide) (Nat.le_of_ble_eq_true rfl)) rfl ?_
        show zzEv _ _ _ [.ref 0, .int l1, .int l2, .int l5, .int q5.1, .int l5, .int q5.1] _ _ _
        refine ev_iinc (v := 1) zo_94_77 rfl (by decide) (zz_set rfl (by decide) (Nat.le_of_ble_eq_true rfl)) rfl ?_
        show zzEv _ _ _ [.ref 0, .int l1, .int l2, .int l5, .int q5.1, .int (l5 + 1), .int q5.1] _ _ _
        refine ev_goto (t := 29) zo_94_80 rfl ?_
        exact ih l1 l2 l5 q5.1 (l5 + 1) q5.2 r h (.int q5.1) rfl
      rw [if_neg c7] at h
      refine ev_cmp_t (t := 77) zo_94_67 rfl (zcm_ge c7) ?_
      refine ev_iinc (v := 1) zo_94_77 rfl (by decide) (zz_set rfl (by decide) (Nat.le_of_ble_eq_true rfl)) rfl ?_
      show zzEv _ _ _ [.ref 0, .int l1, .int l2, .int l3, .int l4, .int (l5 + 1), .int q5.1] _ _ _
      refine ev_goto (t := 29) zo_94_80 rfl ?_
      exact ih l1 l2 l3 l4 (l5 + 1) q5.2 r h (.int q5.1) rfl
    rw [if_neg c1] at h
    refine ev_cmp_t (t := 83) zo_94_33 rfl (zcm_ge c1) ?_
    refine ev_iload_n zo_94_83 rfl rfl rfl ?_
    by_cases c2 : l2 = (0 : Int32)
    · rw [if_pos c2] at h
      refine ev_if_f (t := 91) zo_94_84 rfl (zcm_nne c2) rfl ?_
      refine ev_iload_n zo_94_87 rfl rfl rfl ?_
      refine ev_goto (t := 93) zo_94_88 rfl ?_
      obtain rfl := Option.some.inj h
      exact ev_retI zo_94_93 zr_94
    rw [if_neg c2] at h
    refine ev_if_t (t := 91) zo_94_84 rfl (zcm_ne c2) ?_
    refine ev_iload zo_94_91 rfl rfl ?_
    obtain rfl := Option.some.inj h
    exact ev_retI zo_94_93 zr_94
def F_X6_best (x1 : Int32) (x2 : Int32) (J : zzJ) : Option (Int32 × zzJ) := (Option.bind (F_X0_has 7 x1 J) fun q8 => (if q8.1 = (0 : Int32) then some ((-2 : Int32), q8.2) else (Option.bind (F_X6_isZeroOrOne x2 q8.2) fun q10 => (if q10.1 = (0 : Int32) then some ((-2 : Int32), q10.2) else F_X6_best_29 4096 x1 x2 (-1 : Int32) (0 : Int32) (0 : Int32) q10.2))))
set_option maxRecDepth 100000 in
set_option maxHeartbeats 2000000 in
theorem G_X6_best {d : Nat} (hd : 6 ≤ d) (x1 : Int32) (x2 : Int32) (J : zzJ) (r : Int32 × zzJ) (h : F_X6_best x1 x2 J = some r) : zzEv d 94 0 [.ref 0, .int x1, .int x2, zzU, zzU, zzU, zzU] [] (zK J) (some (.int r.1), zK r.2) := by
  unfold F_X6_best at h
  refine ev_aload_n zo_94_0 rfl rfl rfl rfl ?_
  refine ev_getR zo_94_1 zf_94_28 (by decide) rfl rfl rfl rfl ?_
  refine ev_iload_n zo_94_4 rfl rfl rfl ?_
  obtain ⟨q8, hq8, h⟩ := zz_bd h
  refine ev_cV (as := [.int x1]) (lsn := [.ref 7, .int x1]) (by omega) zo_94_5 zl_94_86 (by rw [zm_2]; rfl) (by rw [zm_2]; exact rfl) (by rw [zm_2]; decide) (by unfold zzIn; rw [zm_2]; rfl) (by rw [zm_2]; exact Nat.le_of_ble_eq_true rfl) (Nat.le_of_ble_eq_true rfl) (G_X0_has (by omega) 7 x1 J q8 hq8) rfl ?_
  show zzEv _ _ _ _ [.int q8.1] _ _
  by_cases c9 : q8.1 = (0 : Int32)
  · rw [if_pos c9] at h
    refine ev_if_t (t := 18) zo_94_8 rfl (zcm_eq c9) ?_
    refine ev_bipush (x := (-2)) zo_94_18 (by decide) rfl ?_
    obtain rfl := Option.some.inj h
    exact ev_retI zo_94_20 zr_94
  rw [if_neg c9] at h
  refine ev_if_f (t := 18) zo_94_8 rfl (zcm_neq c9) rfl ?_
  refine ev_iload_n zo_94_11 rfl rfl rfl ?_
  obtain ⟨q10, hq10, h⟩ := zz_bd h
  refine ev_cS (as := [.int x2]) (lsn := [.int x2]) (by omega) zo_94_12 zl_94_183 (by decide) (by rw [zm_100]; rfl) (by unfold zzIn; rw [zm_100]; rfl) (by rw [zm_100]; exact Nat.le_of_ble_eq_true rfl) (Nat.le_of_ble_eq_true rfl) (G_X6_isZeroOrOne (by omega) x2 q8.2 q10 hq10) rfl ?_
  show zzEv _ _ _ _ [.int q10.1] _ _
  by_cases c11 : q10.1 = (0 : Int32)
  · rw [if_pos c11] at h
    refine ev_if_f (t := 21) zo_94_15 rfl (zcm_nne c11) rfl ?_
    refine ev_bipush (x := (-2)) zo_94_18 (by decide) rfl ?_
    obtain rfl := Option.some.inj h
    exact ev_retI zo_94_20 zr_94
  rw [if_neg c11] at h
  refine ev_if_t (t := 21) zo_94_15 rfl (zcm_ne c11) ?_
  refine ev_iconst (x := (-1)) zo_94_21 (by decide) rfl ?_
  refine ev_istore_n zo_94_22 rfl (zz_set rfl (by decide) (Nat.le_of_ble_eq_true rfl)) rfl ?_
  show zzEv _ _ _ [.ref 0, .int x1, .int x2, .int (-1 : Int32), zzU, zzU, zzU] _ _ _
  refine ev_iconst (x := 0) zo_94_23 (by decide) rfl ?_
  refine ev_istore zo_94_24 (zz_set rfl (by decide) (Nat.le_of_ble_eq_true rfl)) rfl ?_
  show zzEv _ _ _ [.ref 0, .int x1, .int x2, .int (-1 : Int32), .int (0 : Int32), zzU, zzU] _ _ _
  refine ev_iconst (x := 0) zo_94_26 (by decide) rfl ?_
  refine ev_istore zo_94_27 (zz_set rfl (by decide) (Nat.le_of_ble_eq_true rfl)) rfl ?_
  show zzEv _ _ _ [.ref 0, .int x1, .int x2, .int (-1 : Int32), .int (0 : Int32), .int (0 : Int32), zzU] _ _ _
  exact G_X6_best_29 hd 4096 x1 x2 (-1 : Int32) (0 : Int32) (0 : Int32) q10.2 r h (zzU) rfl
/-! X6_dinChanged -/
def F_X6_dinChanged (x1 : Int32) (x2 : Int32) (J : zzJ) : Option (Int32 × zzJ) := (Option.bind (F_X0_take 14 7 J) fun q1 => (Option.bind (F_X0_exchange 14 x1 x2 q1) fun q2 => (Option.bind (F_X0_din 14 q2) fun q3 => some (q3.1, q3.2))))
set_option maxRecDepth 100000 in
set_option maxHeartbeats 2000000 in
theorem G_X6_dinChanged {d : Nat} (hd : 5 ≤ d) (x1 : Int32) (x2 : Int32) (J : zzJ) (r : Int32 × zzJ) (h : F_X6_dinChanged x1 x2 J = some r) : zzEv d 102 0 [.ref 0, .int x1, .int x2] [] (zK J) (some (.int r.1), zK r.2) := by
  unfold F_X6_dinChanged at h
  refine ev_aload_n zo_102_0 rfl rfl rfl rfl ?_
  refine ev_getR zo_102_1 zf_102_32 (by decide) rfl rfl rfl rfl ?_
  refine ev_aload_n zo_102_4 rfl rfl rfl rfl ?_
  refine ev_getR zo_102_5 zf_102_28 (by decide) rfl rfl rfl rfl ?_
  obtain ⟨q1, hq1, h⟩ := zz_bd h
  refine ev_cV (as := [.ref 7]) (lsn := [.ref 14, .ref 7]) (by omega) zo_102_8 zl_102_216 (by rw [zm_1]; rfl) (by rw [zm_1]; exact rfl) (by rw [zm_1]; decide) (by unfold zzIn; rw [zm_1]; rfl) (by rw [zm_1]; exact Nat.le_of_ble_eq_true rfl) (Nat.le_of_ble_eq_true rfl) (G_X0_take (by omega) 14 7 J q1 hq1) rfl ?_
  show zzEv _ _ _ _ [] _ _
  refine ev_aload_n zo_102_11 rfl rfl rfl rfl ?_
  refine ev_getR zo_102_12 zf_102_32 (by decide) rfl rfl rfl rfl ?_
  refine ev_iload_n zo_102_15 rfl rfl rfl ?_
  refine ev_iload_n zo_102_16 rfl rfl rfl ?_
  obtain ⟨q2, hq2, h⟩ := zz_bd h
  refine ev_cV (as := [.int x2, .int x1]) (lsn := [.ref 14, .int x1, .int x2, zzU, zzU]) (by omega) zo_102_17 zl_102_236 (by rw [zm_12]; rfl) (by rw [zm_12]; exact rfl) (by rw [zm_12]; decide) (by unfold zzIn; rw [zm_12]; rfl) (by rw [zm_12]; exact Nat.le_of_ble_eq_true rfl) (Nat.le_of_ble_eq_true rfl) (G_X0_exchange (by omega) 14 x1 x2 q1 q2 hq2) rfl ?_
  show zzEv _ _ _ _ [] _ _
  refine ev_aload_n zo_102_20 rfl rfl rfl rfl ?_
  refine ev_getR zo_102_21 zf_102_32 (by decide) rfl rfl rfl rfl ?_
  obtain ⟨q3, hq3, h⟩ := zz_bd h
  refine ev_cV (as := []) (lsn := [.ref 14, zzU, zzU]) (by omega) zo_102_24 zl_102_150 (by rw [zm_24]; rfl) (by rw [zm_24]; exact rfl) (by rw [zm_24]; decide) (by unfold zzIn; rw [zm_24]; rfl) (by rw [zm_24]; exact Nat.le_of_ble_eq_true rfl) (Nat.le_of_ble_eq_true rfl) (G_X0_din (by omega) 14 q2 q3 hq3) rfl ?_
  show zzEv _ _ _ _ [.int q3.1] _ _
  obtain rfl := Option.some.inj h
  exact ev_retI zo_102_27 zr_102
/-! X6_change -/
def F_X6_change_89 (kl_23 : Int32 → Int32 → Int32 → Int32 → zzJ → Option (Int32 × zzJ)) (kl_41 : Int32 → Int32 → Int32 → Int32 → Int32 → zzJ → Option (Int32 × zzJ)) (l1 : Int32) (l2 : Int32) (l3 : Int32) (l4 : Int32) (l5 : Int32) (t0 : Int32) (J : zzJ) : Option (Int32 × zzJ) := (if t0 < l3 then kl_41 l1 (((10 : Int32) * l4) + l5) t0 l4 (l5 + 1) J else kl_41 l1 l2 l3 l4 (l5 + 1) J)
set_option maxRecDepth 100000 in
set_option maxHeartbeats 2000000 in
theorem G_X6_change_89 {d : Nat} (kl_23 : Int32 → Int32 → Int32 → Int32 → zzJ → Option (Int32 × zzJ)) (kl_41 : Int32 → Int32 → Int32 → Int32 → Int32 → zzJ → Option (Int32 × zzJ)) (hkl_23 : ∀ (l1 : Int32) (l2 : Int32) (l3 : Int32) (l4 : Int32) (J : zzJ) (r : Int32 × zzJ), kl_23 l1 l2 l3 l4 J = some r → ∀ (lv5 : Value) (hlv5 : lv5.category = 1), ∀ (lv6 : Value) (hlv6 : lv6.category = 1), zzEv d 95 23 [.ref 0, .int l1, .int l2, .int l3, .int l4, lv5, lv6] [] (zK J) (some (.int r.1), zK r.2)) (hkl_41 : ∀ (l1 : Int32) (l2 : Int32) (l3 : Int32) (l4 : Int32) (l5 : Int32) (J : zzJ) (r : Int32 × zzJ), kl_41 l1 l2 l3 l4 l5 J = some r → ∀ (lv6 : Value) (hlv6 : lv6.category = 1), zzEv d 95 41 [.ref 0, .int l1, .int l2, .int l3, .int l4, .int l5, lv6] [] (zK J) (some (.int r.1), zK r.2)) (hd : 6 ≤ d) : ∀ (l1 : Int32) (l2 : Int32) (l3 : Int32) (l4 : Int32) (l5 : Int32) (t0 : Int32) (J : zzJ) (r : Int32 × zzJ), F_X6_change_89 kl_23 kl_41 l1 l2 l3 l4 l5 t0 J = some r → ∀ (lv6 : Value) (hlv6 : lv6.category = 1), zzEv d 95 89 [.ref 0, .int l1, .int l2, .int l3, .int l4, .int l5, lv6] [.int t0] (zK J) (some (.int r.1), zK r.2) := by
  intro l1 l2 l3 l4 l5 t0 J r h lv6 hlv6
  unfold F_X6_change_89 at h
  refine ev_istore zo_95_89 (zz_set rfl (by decide) (Nat.le_of_ble_eq_true rfl)) rfl ?_
  show zzEv _ _ _ [.ref 0, .int l1, .int l2, .int l3, .int l4, .int l5, .int t0] _ _ _
  refine ev_iload zo_95_91 rfl rfl ?_
  refine ev_iload_n zo_95_93 rfl rfl rfl ?_
  by_cases c1 : t0 < l3
  · rw [if_pos c1] at h
    refine ev_cmp_f (t := 109) zo_95_94 rfl (zcm_nge c1) rfl ?_
    refine ev_bipush (x := 10) zo_95_97 (by decide) rfl ?_
    refine ev_iload zo_95_99 rfl rfl ?_
    refine ev_imul zo_95_101 rfl ?_
    refine ev_iload zo_95_102 rfl rfl ?_
    refine ev_iadd zo_95_104 rfl ?_
    refine ev_istore_n zo_95_105 rfl (zz_set rfl (by decide) (Nat.le_of_ble_eq_true rfl)) rfl ?_
    show zzEv _ _ _ [.ref 0, .int l1, .int (((10 : Int32) * l4) + l5), .int l3, .int l4, .int l5, .int t0] _ _ _
    refine ev_iload zo_95_106 rfl rfl ?_
    refine ev_istore_n zo_95_108 rfl (zz_set rfl (by decide) (Nat.le_of_ble_eq_true rfl)) rfl ?_
    show zzEv _ _ _ [.ref 0, .int l1, .int (((10 : Int32) * l4) + l5), .int t0, .int l4, .int l5, .int t0] _ _ _
    refine ev_iinc (v := 1) zo_95_109 rfl (by decide) (zz_set rfl (by decide) (Nat.le_of_ble_eq_true rfl)) rfl ?_
    show zzEv _ _ _ [.ref 0, .int l1, .int (((10 : Int32) * l4) + l5), .int t0, .int l4, .int (l5 + 1), .int t0] _ _ _
    refine ev_goto (t := 41) zo_95_112 rfl ?_
    exact hkl_41 l1 (((10 : Int32) * l4) + l5) t0 l4 (l5 + 1) J r h (.int t0) rfl
  rw [if_neg c1] at h
  refine ev_cmp_t (t := 109) zo_95_94 rfl (zcm_ge c1) ?_
  refine ev_iinc (v := 1) zo_95_109 rfl (by decide) (zz_set rfl (by decide) (Nat.le_of_ble_eq_true rfl)) rfl ?_
  show zzEv _ _ _ [.ref 0, .int l1, .int l2, .int l3, .int l4, .int (l5 + 1), .int t0] _ _ _
  refine ev_goto (t := 41) zo_95_112 rfl ?_
  exact hkl_41 l1 l2 l3 l4 (l5 + 1) J r h (.int t0) rfl
def F_X6_change_88 (kl_23 : Int32 → Int32 → Int32 → Int32 → zzJ → Option (Int32 × zzJ)) (kl_41 : Int32 → Int32 → Int32 → Int32 → Int32 → zzJ → Option (Int32 × zzJ)) (l1 : Int32) (l2 : Int32) (l3 : Int32) (l4 : Int32) (l5 : Int32) (J : zzJ) : Option (Int32 × zzJ) := F_X6_change_89 kl_23 kl_41 l1 l2 l3 l4 l5 l3 J
set_option maxRecDepth 100000 in
set_option maxHeartbeats 2000000 in
theorem G_X6_change_88 {d : Nat} (kl_23 : Int32 → Int32 → Int32 → Int32 → zzJ → Option (Int32 × zzJ)) (kl_41 : Int32 → Int32 → Int32 → Int32 → Int32 → zzJ → Option (Int32 × zzJ)) (hkl_23 : ∀ (l1 : Int32) (l2 : Int32) (l3 : Int32) (l4 : Int32) (J : zzJ) (r : Int32 × zzJ), kl_23 l1 l2 l3 l4 J = some r → ∀ (lv5 : Value) (hlv5 : lv5.category = 1), ∀ (lv6 : Value) (hlv6 : lv6.category = 1), zzEv d 95 23 [.ref 0, .int l1, .int l2, .int l3, .int l4, lv5, lv6] [] (zK J) (some (.int r.1), zK r.2)) (hkl_41 : ∀ (l1 : Int32) (l2 : Int32) (l3 : Int32) (l4 : Int32) (l5 : Int32) (J : zzJ) (r : Int32 × zzJ), kl_41 l1 l2 l3 l4 l5 J = some r → ∀ (lv6 : Value) (hlv6 : lv6.category = 1), zzEv d 95 41 [.ref 0, .int l1, .int l2, .int l3, .int l4, .int l5, lv6] [] (zK J) (some (.int r.1), zK r.2)) (hd : 6 ≤ d) : ∀ (l1 : Int32) (l2 : Int32) (l3 : Int32) (l4 : Int32) (l5 : Int32) (J : zzJ) (r : Int32 × zzJ), F_X6_change_88 kl_23 kl_41 l1 l2 l3 l4 l5 J = some r → ∀ (lv6 : Value) (hlv6 : lv6.category = 1), zzEv d 95 88 [.ref 0, .int l1, .int l2, .int l3, .int l4, .int l5, lv6] [] (zK J) (some (.int r.1), zK r.2) := by
  intro l1 l2 l3 l4 l5 J r h lv6 hlv6
  unfold F_X6_change_88 at h
  refine ev_iload_n zo_95_88 rfl rfl rfl ?_
  exact G_X6_change_89 kl_23 kl_41 hkl_23 hkl_41 hd l1 l2 l3 l4 l5 l3 J r h (lv6) hlv6
def F_X6_change_41 (kl_23 : Int32 → Int32 → Int32 → Int32 → zzJ → Option (Int32 × zzJ)) : Nat → Int32 → Int32 → Int32 → Int32 → Int32 → zzJ → Option (Int32 × zzJ)
  | 0, _, _, _, _, _, _ => none
  | n + 1, l1, l2, l3, l4, l5, J => (if l5 < (J.2 7 4) then (Option.bind (F_X0_sits 7 l4 J) fun q3 => (if q3.1 = (0 : Int32) then F_X6_change_88 kl_23 (F_X6_change_41 kl_23 n) l1 l2 l3 l4 l5 q3.2 else (Option.bind (F_X0_sits 7 l5 q3.2) fun q5 => (if q5.1 = (0 : Int32) then F_X6_change_88 kl_23 (F_X6_change_41 kl_23 n) l1 l2 l3 l4 l5 q5.2 else (Option.bind (F_X6_dinChanged l4 l5 q5.2) fun q7 => F_X6_change_89 kl_23 (F_X6_change_41 kl_23 n) l1 l2 l3 l4 l5 q7.1 q7.2))))) else kl_23 l1 l2 l3 (l4 + 1) J)
set_option maxRecDepth 100000 in
set_option maxHeartbeats 2000000 in
theorem G_X6_change_41 {d : Nat} (kl_23 : Int32 → Int32 → Int32 → Int32 → zzJ → Option (Int32 × zzJ)) (hkl_23 : ∀ (l1 : Int32) (l2 : Int32) (l3 : Int32) (l4 : Int32) (J : zzJ) (r : Int32 × zzJ), kl_23 l1 l2 l3 l4 J = some r → ∀ (lv5 : Value) (hlv5 : lv5.category = 1), ∀ (lv6 : Value) (hlv6 : lv6.category = 1), zzEv d 95 23 [.ref 0, .int l1, .int l2, .int l3, .int l4, lv5, lv6] [] (zK J) (some (.int r.1), zK r.2)) (hd : 6 ≤ d) : ∀ (n : Nat) (l1 : Int32) (l2 : Int32) (l3 : Int32) (l4 : Int32) (l5 : Int32) (J : zzJ) (r : Int32 × zzJ), F_X6_change_41 kl_23 n l1 l2 l3 l4 l5 J = some r → ∀ (lv6 : Value) (hlv6 : lv6.category = 1), zzEv d 95 41 [.ref 0, .int l1, .int l2, .int l3, .int l4, .int l5, lv6] [] (zK J) (some (.int r.1), zK r.2) := by
  intro n
  induction n with
  | zero => intro l1 l2 l3 l4 l5 J r h; simp [F_X6_change_41] at h
  | succ n ih =>
    intro l1 l2 l3 l4 l5 J r h lv6 hlv6
    rw [F_X6_change_41] at h
    refine ev_iload zo_95_41 rfl rfl ?_
    refine ev_aload_n zo_95_43 rfl rfl rfl rfl ?_
    refine ev_getR zo_95_44 zf_95_28 (by decide) rfl rfl rfl rfl ?_
    refine ev_getI zo_95_47 zf_95_108 (by decide) (Or.inl rfl) rfl rfl ?_
    by_cases c2 : l5 < (J.2 7 4)
    · rw [if_pos c2] at h
      refine ev_cmp_f (t := 115) zo_95_50 rfl (zcm_nge c2) rfl ?_
      refine ev_aload_n zo_95_53 rfl rfl rfl rfl ?_
      refine ev_getR zo_95_54 zf_95_28 (by decide) rfl rfl rfl rfl ?_
      refine ev_iload zo_95_57 rfl rfl ?_
      obtain ⟨q3, hq3, h⟩ := zz_bd h
      refine ev_cV (as := [.int l4]) (lsn := [.ref 7, .int l4]) (by omega) zo_95_59 zl_95_193 (by rw [zm_8]; rfl) (by rw [zm_8]; exact rfl) (by rw [zm_8]; decide) (by unfold zzIn; rw [zm_8]; rfl) (by rw [zm_8]; exact Nat.le_of_ble_eq_true rfl) (Nat.le_of_ble_eq_true rfl) (G_X0_sits (by omega) 7 l4 J q3 hq3) rfl ?_
      show zzEv _ _ _ _ [.int q3.1] _ _
      by_cases c4 : q3.1 = (0 : Int32)
      · rw [if_pos c4] at h
        refine ev_if_t (t := 88) zo_95_62 rfl (zcm_eq c4) ?_
        exact G_X6_change_88 kl_23 (F_X6_change_41 kl_23 n) hkl_23 ih hd l1 l2 l3 l4 l5 q3.2 r h (lv6) hlv6
      rw [if_neg c4] at h
      refine ev_if_f (t := 88) zo_95_62 rfl (zcm_neq c4) rfl ?_
      refine ev_aload_n zo_95_65 rfl rfl rfl rfl ?_
      refine ev_getR zo_95_66 zf_95_28 (by decide) rfl rfl rfl rfl ?_
      refine ev_iload zo_95_69 rfl rfl ?_
      obtain ⟨q5, hq5, h⟩ := zz_bd h
      refine ev_cV (as := [.int l5]) (lsn := [.ref 7, .int l5]) (by omega) zo_95_71 zl_95_193 (by rw [zm_8]; rfl) (by rw [zm_8]; exact rfl) (by rw [zm_8]; decide) (by unfold zzIn; rw [zm_8]; rfl) (by rw [zm_8]; exact Nat.le_of_ble_eq_true rfl) (Nat.le_of_ble_eq_true rfl) (G_X0_sits (by omega) 7 l5 q3.2 q5 hq5) rfl ?_
      show zzEv _ _ _ _ [.int q5.1] _ _
      by_cases c6 : q5.1 = (0 : Int32)
      · rw [if_pos c6] at h
        refine ev_if_t (t := 88) zo_95_74 rfl (zcm_eq c6) ?_
        exact G_X6_change_88 kl_23 (F_X6_change_41 kl_23 n) hkl_23 ih hd l1 l2 l3 l4 l5 q5.2 r h (lv6) hlv6
      rw [if_neg c6] at h
      refine ev_if_f (t := 88) zo_95_74 rfl (zcm_neq c6) rfl ?_
      refine ev_aload_n zo_95_77 rfl rfl rfl rfl ?_
      refine ev_iload zo_95_78 rfl rfl ?_
      refine ev_iload zo_95_80 rfl rfl ?_
      obtain ⟨q7, hq7, h⟩ := zz_bd h
      refine ev_cV (as := [.int l5, .int l4]) (lsn := [.ref 0, .int l4, .int l5]) (by omega) zo_95_82 zl_95_196 (by rw [zm_102]; rfl) (by rw [zm_102]; exact rfl) (by rw [zm_102]; decide) (by unfold zzIn; rw [zm_102]; rfl) (by rw [zm_102]; exact Nat.le_of_ble_eq_true rfl) (Nat.le_of_ble_eq_true rfl) (G_X6_dinChanged (by omega) l4 l5 q5.2 q7 hq7) rfl ?_
      show zzEv _ _ _ _ [.int q7.1] _ _
      refine ev_goto (t := 89) zo_95_85 rfl ?_
      exact G_X6_change_89 kl_23 (F_X6_change_41 kl_23 n) hkl_23 ih hd l1 l2 l3 l4 l5 q7.1 q7.2 r h (lv6) hlv6
    rw [if_neg c2] at h
    refine ev_cmp_t (t := 115) zo_95_50 rfl (zcm_ge c2) ?_
    refine ev_iinc (v := 1) zo_95_115 rfl (by decide) (zz_set rfl (by decide) (Nat.le_of_ble_eq_true rfl)) rfl ?_
    show zzEv _ _ _ [.ref 0, .int l1, .int l2, .int l3, .int (l4 + 1), .int l5, lv6] _ _ _
    refine ev_goto (t := 23) zo_95_118 rfl ?_
    exact hkl_23 l1 l2 l3 (l4 + 1) J r h (.int l5) rfl (lv6) hlv6
def F_X6_change_23 : Nat → Int32 → Int32 → Int32 → Int32 → zzJ → Option (Int32 × zzJ)
  | 0, _, _, _, _, _ => none
  | n + 1, l1, l2, l3, l4, J => (if l4 < (J.2 7 4) then F_X6_change_41 (F_X6_change_23 n) 4096 l1 l2 l3 l4 (l4 + (1 : Int32)) J else (if l1 = (0 : Int32) then some (l2, J) else some (l3, J)))
set_option maxRecDepth 100000 in
set_option maxHeartbeats 2000000 in
theorem G_X6_change_23 {d : Nat} (hd : 6 ≤ d) : ∀ (n : Nat) (l1 : Int32) (l2 : Int32) (l3 : Int32) (l4 : Int32) (J : zzJ) (r : Int32 × zzJ), F_X6_change_23 n l1 l2 l3 l4 J = some r → ∀ (lv5 : Value) (hlv5 : lv5.category = 1), ∀ (lv6 : Value) (hlv6 : lv6.category = 1), zzEv d 95 23 [.ref 0, .int l1, .int l2, .int l3, .int l4, lv5, lv6] [] (zK J) (some (.int r.1), zK r.2) := by
  intro n
  induction n with
  | zero => intro l1 l2 l3 l4 J r h; simp [F_X6_change_23] at h
  | succ n ih =>
    intro l1 l2 l3 l4 J r h lv5 hlv5 lv6 hlv6
    rw [F_X6_change_23] at h
    refine ev_iload zo_95_23 rfl rfl ?_
    refine ev_aload_n zo_95_25 rfl rfl rfl rfl ?_
    refine ev_getR zo_95_26 zf_95_28 (by decide) rfl rfl rfl rfl ?_
    refine ev_getI zo_95_29 zf_95_108 (by decide) (Or.inl rfl) rfl rfl ?_
    by_cases c8 : l4 < (J.2 7 4)
    · rw [if_pos c8] at h
      refine ev_cmp_f (t := 121) zo_95_32 rfl (zcm_nge c8) rfl ?_
      refine ev_iload zo_95_35 rfl rfl ?_
      refine ev_iconst (x := 1) zo_95_37 (by decide) rfl ?_
      refine ev_iadd zo_95_38 rfl ?_
      refine ev_istore zo_95_39 (zz_set rfl (by decide) (Nat.le_of_ble_eq_true rfl)) rfl ?_
      show zzEv _ _ _ [.ref 0, .int l1, .int l2, .int l3, .int l4, .int (l4 + (1 : Int32)), lv6] _ _ _
      exact G_X6_change_41 (F_X6_change_23 n) ih hd 4096 l1 l2 l3 l4 (l4 + (1 : Int32)) J r h (lv6) hlv6
    rw [if_neg c8] at h
    refine ev_cmp_t (t := 121) zo_95_32 rfl (zcm_ge c8) ?_
    refine ev_iload_n zo_95_121 rfl rfl rfl ?_
    by_cases c9 : l1 = (0 : Int32)
    · rw [if_pos c9] at h
      refine ev_if_f (t := 129) zo_95_122 rfl (zcm_nne c9) rfl ?_
      refine ev_iload_n zo_95_125 rfl rfl rfl ?_
      refine ev_goto (t := 130) zo_95_126 rfl ?_
      obtain rfl := Option.some.inj h
      exact ev_retI zo_95_130 zr_95
    rw [if_neg c9] at h
    refine ev_if_t (t := 129) zo_95_122 rfl (zcm_ne c9) ?_
    refine ev_iload_n zo_95_129 rfl rfl rfl ?_
    obtain rfl := Option.some.inj h
    exact ev_retI zo_95_130 zr_95
def F_X6_change (x1 : Int32) (J : zzJ) : Option (Int32 × zzJ) := (Option.bind (F_X6_isZeroOrOne x1 J) fun q10 => (if q10.1 = (0 : Int32) then some ((-2 : Int32), q10.2) else (Option.bind (F_X0_din 7 q10.2) fun q12 => F_X6_change_23 4096 x1 (-1 : Int32) q12.1 (0 : Int32) q12.2)))
set_option maxRecDepth 100000 in
set_option maxHeartbeats 2000000 in
theorem G_X6_change {d : Nat} (hd : 6 ≤ d) (x1 : Int32) (J : zzJ) (r : Int32 × zzJ) (h : F_X6_change x1 J = some r) : zzEv d 95 0 [.ref 0, .int x1, zzU, zzU, zzU, zzU, zzU] [] (zK J) (some (.int r.1), zK r.2) := by
  unfold F_X6_change at h
  refine ev_iload_n zo_95_0 rfl rfl rfl ?_
  obtain ⟨q10, hq10, h⟩ := zz_bd h
  refine ev_cS (as := [.int x1]) (lsn := [.int x1]) (by omega) zo_95_1 zl_95_183 (by decide) (by rw [zm_100]; rfl) (by unfold zzIn; rw [zm_100]; rfl) (by rw [zm_100]; exact Nat.le_of_ble_eq_true rfl) (Nat.le_of_ble_eq_true rfl) (G_X6_isZeroOrOne (by omega) x1 J q10 hq10) rfl ?_
  show zzEv _ _ _ _ [.int q10.1] _ _
  by_cases c11 : q10.1 = (0 : Int32)
  · rw [if_pos c11] at h
    refine ev_if_f (t := 10) zo_95_4 rfl (zcm_nne c11) rfl ?_
    refine ev_bipush (x := (-2)) zo_95_7 (by decide) rfl ?_
    obtain rfl := Option.some.inj h
    exact ev_retI zo_95_9 zr_95
  rw [if_neg c11] at h
  refine ev_if_t (t := 10) zo_95_4 rfl (zcm_ne c11) ?_
  refine ev_iconst (x := (-1)) zo_95_10 (by decide) rfl ?_
  refine ev_istore_n zo_95_11 rfl (zz_set rfl (by decide) (Nat.le_of_ble_eq_true rfl)) rfl ?_
  show zzEv _ _ _ [.ref 0, .int x1, .int (-1 : Int32), zzU, zzU, zzU, zzU] _ _ _
  refine ev_aload_n zo_95_12 rfl rfl rfl rfl ?_
  refine ev_getR zo_95_13 zf_95_28 (by decide) rfl rfl rfl rfl ?_
  obtain ⟨q12, hq12, h⟩ := zz_bd h
  refine ev_cV (as := []) (lsn := [.ref 7, zzU, zzU]) (by omega) zo_95_16 zl_95_150 (by rw [zm_24]; rfl) (by rw [zm_24]; exact rfl) (by rw [zm_24]; decide) (by unfold zzIn; rw [zm_24]; rfl) (by rw [zm_24]; exact Nat.le_of_ble_eq_true rfl) (Nat.le_of_ble_eq_true rfl) (G_X0_din (by omega) 7 q10.2 q12 hq12) rfl ?_
  show zzEv _ _ _ _ [.int q12.1] _ _
  refine ev_istore_n zo_95_19 rfl (zz_set rfl (by decide) (Nat.le_of_ble_eq_true rfl)) rfl ?_
  show zzEv _ _ _ [.ref 0, .int x1, .int (-1 : Int32), .int q12.1, zzU, zzU, zzU] _ _ _
  refine ev_iconst (x := 0) zo_95_20 (by decide) rfl ?_
  refine ev_istore zo_95_21 (zz_set rfl (by decide) (Nat.le_of_ble_eq_true rfl)) rfl ?_
  show zzEv _ _ _ [.ref 0, .int x1, .int (-1 : Int32), .int q12.1, .int (0 : Int32), zzU, zzU] _ _ _
  exact G_X6_change_23 hd 4096 x1 (-1 : Int32) q12.1 (0 : Int32) q12.2 r h (zzU) rfl (zzU) rfl
/-! X6_watch -/
def F_X6_watch_121 (kl_32 : Int32 → Int32 → Int32 → Int32 → Int32 → zzJ → Option (Int32 × zzJ)) (kl_78 : Int32 → Int32 → Int32 → Int32 → Int32 → Int32 → Int32 → zzJ → Option (Int32 × zzJ)) (l1 : Int32) (l2 : Int32) (l3 : Int32) (l4 : Int32) (l5 : Int32) (l6 : Int32) (l7 : Int32) (t0 : Int32) (J : zzJ) : Option (Int32 × zzJ) := (if t0 < l4 then kl_78 l1 l2 (((10 : Int32) * l5) + l7) t0 l5 l6 (l7 + 1) J else kl_78 l1 l2 l3 l4 l5 l6 (l7 + 1) J)
set_option maxRecDepth 100000 in
set_option maxHeartbeats 2000000 in
theorem G_X6_watch_121 {d : Nat} (kl_32 : Int32 → Int32 → Int32 → Int32 → Int32 → zzJ → Option (Int32 × zzJ)) (kl_78 : Int32 → Int32 → Int32 → Int32 → Int32 → Int32 → Int32 → zzJ → Option (Int32 × zzJ)) (hkl_32 : ∀ (l1 : Int32) (l2 : Int32) (l3 : Int32) (l4 : Int32) (l5 : Int32) (J : zzJ) (r : Int32 × zzJ), kl_32 l1 l2 l3 l4 l5 J = some r → ∀ (lv6 : Value) (hlv6 : lv6.category = 1), ∀ (lv7 : Value) (hlv7 : lv7.category = 1), ∀ (lv8 : Value) (hlv8 : lv8.category = 1), zzEv d 96 32 [.ref 0, .int l1, .int l2, .int l3, .int l4, .int l5, lv6, lv7, lv8] [] (zK J) (some (.int r.1), zK r.2)) (hkl_78 : ∀ (l1 : Int32) (l2 : Int32) (l3 : Int32) (l4 : Int32) (l5 : Int32) (l6 : Int32) (l7 : Int32) (J : zzJ) (r : Int32 × zzJ), kl_78 l1 l2 l3 l4 l5 l6 l7 J = some r → ∀ (lv8 : Value) (hlv8 : lv8.category = 1), zzEv d 96 78 [.ref 0, .int l1, .int l2, .int l3, .int l4, .int l5, .int l6, .int l7, lv8] [] (zK J) (some (.int r.1), zK r.2)) (hd : 6 ≤ d) : ∀ (l1 : Int32) (l2 : Int32) (l3 : Int32) (l4 : Int32) (l5 : Int32) (l6 : Int32) (l7 : Int32) (t0 : Int32) (J : zzJ) (r : Int32 × zzJ), F_X6_watch_121 kl_32 kl_78 l1 l2 l3 l4 l5 l6 l7 t0 J = some r → ∀ (lv8 : Value) (hlv8 : lv8.category = 1), zzEv d 96 121 [.ref 0, .int l1, .int l2, .int l3, .int l4, .int l5, .int l6, .int l7, lv8] [.int t0] (zK J) (some (.int r.1), zK r.2) := by
  intro l1 l2 l3 l4 l5 l6 l7 t0 J r h lv8 hlv8
  unfold F_X6_watch_121 at h
  refine ev_istore zo_96_121 (zz_set rfl (by decide) (Nat.le_of_ble_eq_true rfl)) rfl ?_
  show zzEv _ _ _ [.ref 0, .int l1, .int l2, .int l3, .int l4, .int l5, .int l6, .int l7, .int t0] _ _ _
  refine ev_iload zo_96_123 rfl rfl ?_
  refine ev_iload zo_96_125 rfl rfl ?_
  by_cases c1 : t0 < l4
  · rw [if_pos c1] at h
    refine ev_cmp_f (t := 143) zo_96_127 rfl (zcm_nge c1) rfl ?_
    refine ev_bipush (x := 10) zo_96_130 (by decide) rfl ?_
    refine ev_iload zo_96_132 rfl rfl ?_
    refine ev_imul zo_96_134 rfl ?_
    refine ev_iload zo_96_135 rfl rfl ?_
    refine ev_iadd zo_96_137 rfl ?_
    refine ev_istore_n zo_96_138 rfl (zz_set rfl (by decide) (Nat.le_of_ble_eq_true rfl)) rfl ?_
    show zzEv _ _ _ [.ref 0, .int l1, .int l2, .int (((10 : Int32) * l5) + l7), .int l4, .int l5, .int l6, .int l7, .int t0] _ _ _
    refine ev_iload zo_96_139 rfl rfl ?_
    refine ev_istore zo_96_141 (zz_set rfl (by decide) (Nat.le_of_ble_eq_true rfl)) rfl ?_
    show zzEv _ _ _ [.ref 0, .int l1, .int l2, .int (((10 : Int32) * l5) + l7), .int t0, .int l5, .int l6, .int l7, .int t0] _ _ _
    refine ev_iinc (v := 1) zo_96_143 rfl (by decide) (zz_set rfl (by decide) (Nat.le_of_ble_eq_true rfl)) rfl ?_
    show zzEv _ _ _ [.ref 0, .int l1, .int l2, .int (((10 : Int32) * l5) + l7), .int t0, .int l5, .int l6, .int (l7 + 1), .int t0] _ _ _
    refine ev_goto (t := 78) zo_96_146 rfl ?_
    exact hkl_78 l1 l2 (((10 : Int32) * l5) + l7) t0 l5 l6 (l7 + 1) J r h (.int t0) rfl
  rw [if_neg c1] at h
  refine ev_cmp_t (t := 143) zo_96_127 rfl (zcm_ge c1) ?_
  refine ev_iinc (v := 1) zo_96_143 rfl (by decide) (zz_set rfl (by decide) (Nat.le_of_ble_eq_true rfl)) rfl ?_
  show zzEv _ _ _ [.ref 0, .int l1, .int l2, .int l3, .int l4, .int l5, .int l6, .int (l7 + 1), .int t0] _ _ _
  refine ev_goto (t := 78) zo_96_146 rfl ?_
  exact hkl_78 l1 l2 l3 l4 l5 l6 (l7 + 1) J r h (.int t0) rfl
def F_X6_watch_78 (kl_32 : Int32 → Int32 → Int32 → Int32 → Int32 → zzJ → Option (Int32 × zzJ)) : Nat → Int32 → Int32 → Int32 → Int32 → Int32 → Int32 → Int32 → zzJ → Option (Int32 × zzJ)
  | 0, _, _, _, _, _, _, _, _ => none
  | n + 1, l1, l2, l3, l4, l5, l6, l7, J => (if l7 < (J.2 7 4) then (if l6 = (0 : Int32) then kl_32 l1 l2 l3 l4 (l5 + 1) J else (Option.bind (F_X0_areBeside 7 l7 l2 J) fun q4 => (if q4.1 = (0 : Int32) then F_X6_watch_121 kl_32 (F_X6_watch_78 kl_32 n) l1 l2 l3 l4 l5 l6 l7 l4 q4.2 else (Option.bind (F_X6_dinChanged l5 l7 q4.2) fun q6 => F_X6_watch_121 kl_32 (F_X6_watch_78 kl_32 n) l1 l2 l3 l4 l5 l6 l7 q6.1 q6.2)))) else kl_32 l1 l2 l3 l4 (l5 + 1) J)
set_option maxRecDepth 100000 in
set_option maxHeartbeats 2000000 in
theorem G_X6_watch_78 {d : Nat} (kl_32 : Int32 → Int32 → Int32 → Int32 → Int32 → zzJ → Option (Int32 × zzJ)) (hkl_32 : ∀ (l1 : Int32) (l2 : Int32) (l3 : Int32) (l4 : Int32) (l5 : Int32) (J : zzJ) (r : Int32 × zzJ), kl_32 l1 l2 l3 l4 l5 J = some r → ∀ (lv6 : Value) (hlv6 : lv6.category = 1), ∀ (lv7 : Value) (hlv7 : lv7.category = 1), ∀ (lv8 : Value) (hlv8 : lv8.category = 1), zzEv d 96 32 [.ref 0, .int l1, .int l2, .int l3, .int l4, .int l5, lv6, lv7, lv8] [] (zK J) (some (.int r.1), zK r.2)) (hd : 6 ≤ d) : ∀ (n : Nat) (l1 : Int32) (l2 : Int32) (l3 : Int32) (l4 : Int32) (l5 : Int32) (l6 : Int32) (l7 : Int32) (J : zzJ) (r : Int32 × zzJ), F_X6_watch_78 kl_32 n l1 l2 l3 l4 l5 l6 l7 J = some r → ∀ (lv8 : Value) (hlv8 : lv8.category = 1), zzEv d 96 78 [.ref 0, .int l1, .int l2, .int l3, .int l4, .int l5, .int l6, .int l7, lv8] [] (zK J) (some (.int r.1), zK r.2) := by
  intro n
  induction n with
  | zero => intro l1 l2 l3 l4 l5 l6 l7 J r h; simp [F_X6_watch_78] at h
  | succ n ih =>
    intro l1 l2 l3 l4 l5 l6 l7 J r h lv8 hlv8
    rw [F_X6_watch_78] at h
    refine ev_iload zo_96_78 rfl rfl ?_
    refine ev_aload_n zo_96_80 rfl rfl rfl rfl ?_
    refine ev_getR zo_96_81 zf_96_28 (by decide) rfl rfl rfl rfl ?_
    refine ev_getI zo_96_84 zf_96_108 (by decide) (Or.inl rfl) rfl rfl ?_
    by_cases c2 : l7 < (J.2 7 4)
    · rw [if_pos c2] at h
      refine ev_cmp_f (t := 149) zo_96_87 rfl (zcm_nge c2) rfl ?_
      refine ev_iload zo_96_90 rfl rfl ?_
      by_cases c3 : l6 = (0 : Int32)
      · rw [if_pos c3] at h
        refine ev_if_t (t := 149) zo_96_92 rfl (zcm_eq c3) ?_
        refine ev_iinc (v := 1) zo_96_149 rfl (by decide) (zz_set rfl (by decide) (Nat.le_of_ble_eq_true rfl)) rfl ?_
        show zzEv _ _ _ [.ref 0, .int l1, .int l2, .int l3, .int l4, .int (l5 + 1), .int l6, .int l7, lv8] _ _ _
        refine ev_goto (t := 32) zo_96_152 rfl ?_
        exact hkl_32 l1 l2 l3 l4 (l5 + 1) J r h (.int l6) rfl (.int l7) rfl (lv8) hlv8
      rw [if_neg c3] at h
      refine ev_if_f (t := 149) zo_96_92 rfl (zcm_neq c3) rfl ?_
      refine ev_aload_n zo_96_95 rfl rfl rfl rfl ?_
      refine ev_getR zo_96_96 zf_96_28 (by decide) rfl rfl rfl rfl ?_
      refine ev_iload zo_96_99 rfl rfl ?_
      refine ev_iload_n zo_96_101 rfl rfl rfl ?_
      obtain ⟨q4, hq4, h⟩ := zz_bd h
      refine ev_cV (as := [.int l2, .int l7]) (lsn := [.ref 7, .int l7, .int l2, zzU, zzU]) (by omega) zo_96_102 zl_96_205 (by rw [zm_16]; rfl) (by rw [zm_16]; exact rfl) (by rw [zm_16]; decide) (by unfold zzIn; rw [zm_16]; rfl) (by rw [zm_16]; exact Nat.le_of_ble_eq_true rfl) (Nat.le_of_ble_eq_true rfl) (G_X0_areBeside (by omega) 7 l7 l2 J q4 hq4) rfl ?_
      show zzEv _ _ _ _ [.int q4.1] _ _
      by_cases c5 : q4.1 = (0 : Int32)
      · rw [if_pos c5] at h
        refine ev_if_t (t := 119) zo_96_105 rfl (zcm_eq c5) ?_
        refine ev_iload zo_96_119 rfl rfl ?_
        exact G_X6_watch_121 kl_32 (F_X6_watch_78 kl_32 n) hkl_32 ih hd l1 l2 l3 l4 l5 l6 l7 l4 q4.2 r h (lv8) hlv8
      rw [if_neg c5] at h
      refine ev_if_f (t := 119) zo_96_105 rfl (zcm_neq c5) rfl ?_
      refine ev_aload_n zo_96_108 rfl rfl rfl rfl ?_
      refine ev_iload zo_96_109 rfl rfl ?_
      refine ev_iload zo_96_111 rfl rfl ?_
      obtain ⟨q6, hq6, h⟩ := zz_bd h
      refine ev_cV (as := [.int l7, .int l5]) (lsn := [.ref 0, .int l5, .int l7]) (by omega) zo_96_113 zl_96_196 (by rw [zm_102]; rfl) (by rw [zm_102]; exact rfl) (by rw [zm_102]; decide) (by unfold zzIn; rw [zm_102]; rfl) (by rw [zm_102]; exact Nat.le_of_ble_eq_true rfl) (Nat.le_of_ble_eq_true rfl) (G_X6_dinChanged (by omega) l5 l7 q4.2 q6 hq6) rfl ?_
      show zzEv _ _ _ _ [.int q6.1] _ _
      refine ev_goto (t := 121) zo_96_116 rfl ?_
      exact G_X6_watch_121 kl_32 (F_X6_watch_78 kl_32 n) hkl_32 ih hd l1 l2 l3 l4 l5 l6 l7 q6.1 q6.2 r h (lv8) hlv8
    rw [if_neg c2] at h
    refine ev_cmp_t (t := 149) zo_96_87 rfl (zcm_ge c2) ?_
    refine ev_iinc (v := 1) zo_96_149 rfl (by decide) (zz_set rfl (by decide) (Nat.le_of_ble_eq_true rfl)) rfl ?_
    show zzEv _ _ _ [.ref 0, .int l1, .int l2, .int l3, .int l4, .int (l5 + 1), .int l6, .int l7, lv8] _ _ _
    refine ev_goto (t := 32) zo_96_152 rfl ?_
    exact hkl_32 l1 l2 l3 l4 (l5 + 1) J r h (.int l6) rfl (.int l7) rfl (lv8) hlv8
def F_X6_watch_32 : Nat → Int32 → Int32 → Int32 → Int32 → Int32 → zzJ → Option (Int32 × zzJ)
  | 0, _, _, _, _, _, _ => none
  | n + 1, l1, l2, l3, l4, l5, J => (if l5 < (J.2 7 4) then (Option.bind (F_X0_sits 7 l5 J) fun q9 => (if q9.1 = (0 : Int32) then F_X6_watch_78 (F_X6_watch_32 n) 4096 l1 l2 l3 l4 l5 (0 : Int32) (0 : Int32) q9.2 else (Option.bind (F_X0_isTeacher 7 l5 q9.2) fun q11 => (if q11.1 = (0 : Int32) then F_X6_watch_78 (F_X6_watch_32 n) 4096 l1 l2 l3 l4 l5 (1 : Int32) (0 : Int32) q11.2 else F_X6_watch_78 (F_X6_watch_32 n) 4096 l1 l2 l3 l4 l5 (0 : Int32) (0 : Int32) q11.2)))) else (if l1 = (0 : Int32) then some (l3, J) else some (l4, J)))
set_option maxRecDepth 100000 in
set_option maxHeartbeats 2000000 in
theorem G_X6_watch_32 {d : Nat} (hd : 6 ≤ d) : ∀ (n : Nat) (l1 : Int32) (l2 : Int32) (l3 : Int32) (l4 : Int32) (l5 : Int32) (J : zzJ) (r : Int32 × zzJ), F_X6_watch_32 n l1 l2 l3 l4 l5 J = some r → ∀ (lv6 : Value) (hlv6 : lv6.category = 1), ∀ (lv7 : Value) (hlv7 : lv7.category = 1), ∀ (lv8 : Value) (hlv8 : lv8.category = 1), zzEv d 96 32 [.ref 0, .int l1, .int l2, .int l3, .int l4, .int l5, lv6, lv7, lv8] [] (zK J) (some (.int r.1), zK r.2) := by
  intro n
  induction n with
  | zero => intro l1 l2 l3 l4 l5 J r h; simp [F_X6_watch_32] at h
  | succ n ih =>
    intro l1 l2 l3 l4 l5 J r h lv6 hlv6 lv7 hlv7 lv8 hlv8
    rw [F_X6_watch_32] at h
    refine ev_iload zo_96_32 rfl rfl ?_
    refine ev_aload_n zo_96_34 rfl rfl rfl rfl ?_
    refine ev_getR zo_96_35 zf_96_28 (by decide) rfl rfl rfl rfl ?_
    refine ev_getI zo_96_38 zf_96_108 (by decide) (Or.inl rfl) rfl rfl ?_
    by_cases c7 : l5 < (J.2 7 4)
    · rw [if_pos c7] at h
      refine ev_cmp_f (t := 155) zo_96_41 rfl (zcm_nge c7) rfl ?_
      refine ev_aload_n zo_96_44 rfl rfl rfl rfl ?_
      refine ev_getR zo_96_45 zf_96_28 (by decide) rfl rfl rfl rfl ?_
      refine ev_iload zo_96_48 rfl rfl ?_
      obtain ⟨q9, hq9, h⟩ := zz_bd h
      refine ev_cV (as := [.int l5]) (lsn := [.ref 7, .int l5]) (by omega) zo_96_50 zl_96_193 (by rw [zm_8]; rfl) (by rw [zm_8]; exact rfl) (by rw [zm_8]; decide) (by unfold zzIn; rw [zm_8]; rfl) (by rw [zm_8]; exact Nat.le_of_ble_eq_true rfl) (Nat.le_of_ble_eq_true rfl) (G_X0_sits (by omega) 7 l5 J q9 hq9) rfl ?_
      show zzEv _ _ _ _ [.int q9.1] _ _
      by_cases c10 : q9.1 = (0 : Int32)
      · rw [if_pos c10] at h
        refine ev_if_t (t := 72) zo_96_53 rfl (zcm_eq c10) ?_
        refine ev_iconst (x := 0) zo_96_72 (by decide) rfl ?_
        refine ev_istore zo_96_73 (zz_set rfl (by decide) (Nat.le_of_ble_eq_true rfl)) rfl ?_
        show zzEv _ _ _ [.ref 0, .int l1, .int l2, .int l3, .int l4, .int l5, .int (0 : Int32), lv7, lv8] _ _ _
        refine ev_iconst (x := 0) zo_96_75 (by decide) rfl ?_
        refine ev_istore zo_96_76 (zz_set rfl (by decide) (Nat.le_of_ble_eq_true rfl)) rfl ?_
        show zzEv _ _ _ [.ref 0, .int l1, .int l2, .int l3, .int l4, .int l5, .int (0 : Int32), .int (0 : Int32), lv8] _ _ _
        exact G_X6_watch_78 (F_X6_watch_32 n) ih hd 4096 l1 l2 l3 l4 l5 (0 : Int32) (0 : Int32) q9.2 r h (lv8) hlv8
      rw [if_neg c10] at h
      refine ev_if_f (t := 72) zo_96_53 rfl (zcm_neq c10) rfl ?_
      refine ev_aload_n zo_96_56 rfl rfl rfl rfl ?_
      refine ev_getR zo_96_57 zf_96_28 (by decide) rfl rfl rfl rfl ?_
      refine ev_iload zo_96_60 rfl rfl ?_
      obtain ⟨q11, hq11, h⟩ := zz_bd h
      refine ev_cV (as := [.int l5]) (lsn := [.ref 7, .int l5]) (by omega) zo_96_62 zl_96_202 (by rw [zm_19]; rfl) (by rw [zm_19]; exact rfl) (by rw [zm_19]; decide) (by unfold zzIn; rw [zm_19]; rfl) (by rw [zm_19]; exact Nat.le_of_ble_eq_true rfl) (Nat.le_of_ble_eq_true rfl) (G_X0_isTeacher (by omega) 7 l5 q9.2 q11 hq11) rfl ?_
      show zzEv _ _ _ _ [.int q11.1] _ _
      by_cases c12 : q11.1 = (0 : Int32)
      · rw [if_pos c12] at h
        refine ev_if_f (t := 72) zo_96_65 rfl (zcm_nne c12) rfl ?_
        refine ev_iconst (x := 1) zo_96_68 (by decide) rfl ?_
        refine ev_goto (t := 73) zo_96_69 rfl ?_
        refine ev_istore zo_96_73 (zz_set rfl (by decide) (Nat.le_of_ble_eq_true rfl)) rfl ?_
        show zzEv _ _ _ [.ref 0, .int l1, .int l2, .int l3, .int l4, .int l5, .int (1 : Int32), lv7, lv8] _ _ _
        refine ev_iconst (x := 0) zo_96_75 (by decide) rfl ?_
        refine ev_istore zo_96_76 (zz_set rfl (by decide) (Nat.le_of_ble_eq_true rfl)) rfl ?_
        show zzEv _ _ _ [.ref 0, .int l1, .int l2, .int l3, .int l4, .int l5, .int (1 : Int32), .int (0 : Int32), lv8] _ _ _
        exact G_X6_watch_78 (F_X6_watch_32 n) ih hd 4096 l1 l2 l3 l4 l5 (1 : Int32) (0 : Int32) q11.2 r h (lv8) hlv8
      rw [if_neg c12] at h
      refine ev_if_t (t := 72) zo_96_65 rfl (zcm_ne c12) ?_
      refine ev_iconst (x := 0) zo_96_72 (by decide) rfl ?_
      refine ev_istore zo_96_73 (zz_set rfl (by decide) (Nat.le_of_ble_eq_true rfl)) rfl ?_
      show zzEv _ _ _ [.ref 0, .int l1, .int l2, .int l3, .int l4, .int l5, .int (0 : Int32), lv7, lv8] _ _ _
      refine ev_iconst (x := 0) zo_96_75 (by decide) rfl ?_
      refine ev_istore zo_96_76 (zz_set rfl (by decide) (Nat.le_of_ble_eq_true rfl)) rfl ?_
      show zzEv _ _ _ [.ref 0, .int l1, .int l2, .int l3, .int l4, .int l5, .int (0 : Int32), .int (0 : Int32), lv8] _ _ _
      exact G_X6_watch_78 (F_X6_watch_32 n) ih hd 4096 l1 l2 l3 l4 l5 (0 : Int32) (0 : Int32) q11.2 r h (lv8) hlv8
    rw [if_neg c7] at h
    refine ev_cmp_t (t := 155) zo_96_41 rfl (zcm_ge c7) ?_
    refine ev_iload_n zo_96_155 rfl rfl rfl ?_
    by_cases c8 : l1 = (0 : Int32)
    · rw [if_pos c8] at h
      refine ev_if_f (t := 163) zo_96_156 rfl (zcm_nne c8) rfl ?_
      refine ev_iload_n zo_96_159 rfl rfl rfl ?_
      refine ev_goto (t := 165) zo_96_160 rfl ?_
      obtain rfl := Option.some.inj h
      exact ev_retI zo_96_165 zr_96
    rw [if_neg c8] at h
    refine ev_if_t (t := 163) zo_96_156 rfl (zcm_ne c8) ?_
    refine ev_iload zo_96_163 rfl rfl ?_
    obtain rfl := Option.some.inj h
    exact ev_retI zo_96_165 zr_96
def F_X6_watch (x1 : Int32) (J : zzJ) : Option (Int32 × zzJ) := (Option.bind (F_X6_isZeroOrOne x1 J) fun q13 => (if q13.1 = (0 : Int32) then some ((-2 : Int32), q13.2) else (Option.bind (F_X0_firstTeacher 7 q13.2) fun q15 => (Option.bind (F_X0_din 7 q15.2) fun q16 => F_X6_watch_32 4096 x1 q15.1 (-1 : Int32) q16.1 (0 : Int32) q16.2))))
set_option maxRecDepth 100000 in
set_option maxHeartbeats 2000000 in
theorem G_X6_watch {d : Nat} (hd : 6 ≤ d) (x1 : Int32) (J : zzJ) (r : Int32 × zzJ) (h : F_X6_watch x1 J = some r) : zzEv d 96 0 [.ref 0, .int x1, zzU, zzU, zzU, zzU, zzU, zzU, zzU] [] (zK J) (some (.int r.1), zK r.2) := by
  unfold F_X6_watch at h
  refine ev_iload_n zo_96_0 rfl rfl rfl ?_
  obtain ⟨q13, hq13, h⟩ := zz_bd h
  refine ev_cS (as := [.int x1]) (lsn := [.int x1]) (by omega) zo_96_1 zl_96_183 (by decide) (by rw [zm_100]; rfl) (by unfold zzIn; rw [zm_100]; rfl) (by rw [zm_100]; exact Nat.le_of_ble_eq_true rfl) (Nat.le_of_ble_eq_true rfl) (G_X6_isZeroOrOne (by omega) x1 J q13 hq13) rfl ?_
  show zzEv _ _ _ _ [.int q13.1] _ _
  by_cases c14 : q13.1 = (0 : Int32)
  · rw [if_pos c14] at h
    refine ev_if_f (t := 10) zo_96_4 rfl (zcm_nne c14) rfl ?_
    refine ev_bipush (x := (-2)) zo_96_7 (by decide) rfl ?_
    obtain rfl := Option.some.inj h
    exact ev_retI zo_96_9 zr_96
  rw [if_neg c14] at h
  refine ev_if_t (t := 10) zo_96_4 rfl (zcm_ne c14) ?_
  refine ev_aload_n zo_96_10 rfl rfl rfl rfl ?_
  refine ev_getR zo_96_11 zf_96_28 (by decide) rfl rfl rfl rfl ?_
  obtain ⟨q15, hq15, h⟩ := zz_bd h
  refine ev_cV (as := []) (lsn := [.ref 7, zzU]) (by omega) zo_96_14 zl_96_199 (by rw [zm_15]; rfl) (by rw [zm_15]; exact rfl) (by rw [zm_15]; decide) (by unfold zzIn; rw [zm_15]; rfl) (by rw [zm_15]; exact Nat.le_of_ble_eq_true rfl) (Nat.le_of_ble_eq_true rfl) (G_X0_firstTeacher (by omega) 7 q13.2 q15 hq15) rfl ?_
  show zzEv _ _ _ _ [.int q15.1] _ _
  refine ev_istore_n zo_96_17 rfl (zz_set rfl (by decide) (Nat.le_of_ble_eq_true rfl)) rfl ?_
  show zzEv _ _ _ [.ref 0, .int x1, .int q15.1, zzU, zzU, zzU, zzU, zzU, zzU] _ _ _
  refine ev_iconst (x := (-1)) zo_96_18 (by decide) rfl ?_
  refine ev_istore_n zo_96_19 rfl (zz_set rfl (by decide) (Nat.le_of_ble_eq_true rfl)) rfl ?_
  show zzEv _ _ _ [.ref 0, .int x1, .int q15.1, .int (-1 : Int32), zzU, zzU, zzU, zzU, zzU] _ _ _
  refine ev_aload_n zo_96_20 rfl rfl rfl rfl ?_
  refine ev_getR zo_96_21 zf_96_28 (by decide) rfl rfl rfl rfl ?_
  obtain ⟨q16, hq16, h⟩ := zz_bd h
  refine ev_cV (as := []) (lsn := [.ref 7, zzU, zzU]) (by omega) zo_96_24 zl_96_150 (by rw [zm_24]; rfl) (by rw [zm_24]; exact rfl) (by rw [zm_24]; decide) (by unfold zzIn; rw [zm_24]; rfl) (by rw [zm_24]; exact Nat.le_of_ble_eq_true rfl) (Nat.le_of_ble_eq_true rfl) (G_X0_din (by omega) 7 q15.2 q16 hq16) rfl ?_
  show zzEv _ _ _ _ [.int q16.1] _ _
  refine ev_istore zo_96_27 (zz_set rfl (by decide) (Nat.le_of_ble_eq_true rfl)) rfl ?_
  show zzEv _ _ _ [.ref 0, .int x1, .int q15.1, .int (-1 : Int32), .int q16.1, zzU, zzU, zzU, zzU] _ _ _
  refine ev_iconst (x := 0) zo_96_29 (by decide) rfl ?_
  refine ev_istore zo_96_30 (zz_set rfl (by decide) (Nat.le_of_ble_eq_true rfl)) rfl ?_
  show zzEv _ _ _ [.ref 0, .int x1, .int q15.1, .int (-1 : Int32), .int q16.1, .int (0 : Int32), zzU, zzU, zzU] _ _ _
  exact G_X6_watch_32 hd 4096 x1 q15.1 (-1 : Int32) q16.1 (0 : Int32) q16.2 r h (zzU) rfl (zzU) rfl (zzU) rfl
/-! X6_sheetAt -/
def F_X6_sheetAt (x1 : Int32) (J : zzJ) : Option (Option Nat × zzJ) := (if x1 < (0 : Int32) then some (none, J) else (if x1 < (4 : Int32) then (if zzIx x1 4 then (Option.bind (zMR 37 x1.toNatClampNeg) fun b4 => some ((some b4), J)) else none) else some (none, J)))
set_option maxRecDepth 100000 in
set_option maxHeartbeats 2000000 in
theorem G_X6_sheetAt {d : Nat} (hd : 0 ≤ d) (x1 : Int32) (J : zzJ) (r : Option Nat × zzJ) (h : F_X6_sheetAt x1 J = some r) : zzEv d 124 0 [.ref 0, .int x1] [] (zK J) (some (va_rf r.1), zK r.2) := by
  unfold F_X6_sheetAt at h
  refine ev_iload_n zo_124_0 rfl rfl rfl ?_
  by_cases c1 : x1 < (0 : Int32)
  · rw [if_pos c1] at h
    refine ev_if_t (t := 22) zo_124_1 rfl (zcm_lt c1) ?_
    refine ev_null zo_124_22 rfl ?_
    obtain rfl := Option.some.inj h
    exact ev_retR (o := none) zo_124_23 zr_124
  rw [if_neg c1] at h
  refine ev_if_f (t := 22) zo_124_1 rfl (zcm_nlt c1) rfl ?_
  refine ev_iload_n zo_124_4 rfl rfl rfl ?_
  refine ev_aload_n zo_124_5 rfl rfl rfl rfl ?_
  refine ev_getR zo_124_6 zf_124_58 (by decide) rfl rfl rfl rfl ?_
  refine ev_alen zo_124_9 (by decide) rfl ?_
  show zzEv _ _ _ _ [.int (4 : Int32), .int x1] _ _
  by_cases c2 : x1 < (4 : Int32)
  · rw [if_pos c2] at h
    refine ev_cmp_f (t := 22) zo_124_10 rfl (zcm_nge c2) rfl ?_
    refine ev_aload_n zo_124_13 rfl rfl rfl rfl ?_
    refine ev_getR zo_124_14 zf_124_58 (by decide) rfl rfl rfl rfl ?_
    refine ev_iload_n zo_124_17 rfl rfl rfl ?_
    obtain ⟨c3, h⟩ := zz_chk h
    obtain ⟨b4, eb4, h⟩ := zz_bd h
    refine ev_aald zo_124_18 rfl c3 eb4 rfl ?_
    refine ev_goto (t := 23) zo_124_19 rfl ?_
    obtain rfl := Option.some.inj h
    exact ev_retR (o := (some b4)) zo_124_23 zr_124
  rw [if_neg c2] at h
  refine ev_cmp_t (t := 22) zo_124_10 rfl (zcm_ge c2) ?_
  refine ev_null zo_124_22 rfl ?_
  obtain rfl := Option.some.inj h
  exact ev_retR (o := none) zo_124_23 zr_124
/-! X6_hat -/
def F_X6_hat (x1 : Int32) (x2 : Int32) (J : zzJ) : Option (Int32 × zzJ) := (Option.bind (F_X6_sheetAt x1 J) fun q1 => (match q1.1 with | none => some ((-100000 : Int32), q1.2) | some b3 => (Option.bind (F_X6_isZeroOrOne x2 q1.2) fun q4 => (if q4.1 = (0 : Int32) then some ((-100000 : Int32), q4.2) else (Option.bind (F_X1_takes b3 7 q4.2) fun q6 => (if q6.1 = (0 : Int32) then some ((-100000 : Int32), q6.2) else (Option.bind (F_X0_take 14 7 q6.2) fun q8 => (Option.bind (F_X1_seek 14 q8) fun q9 => (if x2 = (0 : Int32) then some ((q9.2 33 4), q9) else some ((q9.2 33 5), q9))))))))))
set_option maxRecDepth 100000 in
set_option maxHeartbeats 2000000 in
theorem G_X6_hat {d : Nat} (hd : 6 ≤ d) (x1 : Int32) (x2 : Int32) (J : zzJ) (r : Int32 × zzJ) (h : F_X6_hat x1 x2 J = some r) : zzEv d 97 0 [.ref 0, .int x1, .int x2, zzU] [] (zK J) (some (.int r.1), zK r.2) := by
  unfold F_X6_hat at h
  refine ev_aload_n zo_97_0 rfl rfl rfl rfl ?_
  refine ev_iload_n zo_97_1 rfl rfl rfl ?_
  obtain ⟨q1, hq1, h⟩ := zz_bd h
  refine ev_cV (as := [.int x1]) (lsn := [.ref 0, .int x1]) (by omega) zo_97_2 zl_97_208 (by rw [zm_124]; rfl) (by rw [zm_124]; exact rfl) (by rw [zm_124]; decide) (by unfold zzIn; rw [zm_124]; rfl) (by rw [zm_124]; exact Nat.le_of_ble_eq_true rfl) (Nat.le_of_ble_eq_true rfl) (G_X6_sheetAt (by omega) x1 J q1 hq1) rfl ?_
  show zzEv _ _ _ _ [va_rf q1.1] _ _
  refine ev_astore_n zo_97_5 rfl (zz_is3 _) (zz_set rfl (by decide) (Nat.le_of_ble_eq_true rfl)) rfl ?_
  show zzEv _ _ _ [.ref 0, .int x1, .int x2, va_rf q1.1] _ _ _
  refine ev_aload_n zo_97_6 rfl rfl (zz_is3 _) rfl ?_
  generalize q1.1 = o2 at h ⊢
  cases o2 with
  | none =>
    dsimp only at h
    refine ev_ifnull_n (t := 32) zo_97_7 rfl ?_
    refine ev_ldcI zo_97_32 zc_97_159n zc_97_159 rfl ?_
    obtain rfl := Option.some.inj h
    exact ev_retI zo_97_34 zr_97
  | some b3 =>
    dsimp only at h
    refine ev_ifnull_r (t := 32) zo_97_7 rfl rfl ?_
    refine ev_iload_n zo_97_10 rfl rfl rfl ?_
    obtain ⟨q4, hq4, h⟩ := zz_bd h
    refine ev_cS (as := [.int x2]) (lsn := [.int x2]) (by omega) zo_97_11 zl_97_183 (by decide) (by rw [zm_100]; rfl) (by unfold zzIn; rw [zm_100]; rfl) (by rw [zm_100]; exact Nat.le_of_ble_eq_true rfl) (Nat.le_of_ble_eq_true rfl) (G_X6_isZeroOrOne (by omega) x2 q1.2 q4 hq4) rfl ?_
    show zzEv _ _ _ _ [.int q4.1] _ _
    by_cases c5 : q4.1 = (0 : Int32)
    · rw [if_pos c5] at h
      refine ev_if_t (t := 32) zo_97_14 rfl (zcm_eq c5) ?_
      refine ev_ldcI zo_97_32 zc_97_159n zc_97_159 rfl ?_
      obtain rfl := Option.some.inj h
      exact ev_retI zo_97_34 zr_97
    rw [if_neg c5] at h
    refine ev_if_f (t := 32) zo_97_14 rfl (zcm_neq c5) rfl ?_
    refine ev_aload_n zo_97_17 rfl rfl rfl rfl ?_
    refine ev_getR zo_97_18 zf_97_52 (by decide) rfl rfl rfl rfl ?_
    refine ev_aload_n zo_97_21 rfl rfl rfl rfl ?_
    refine ev_aload_n zo_97_22 rfl rfl rfl rfl ?_
    refine ev_getR zo_97_23 zf_97_28 (by decide) rfl rfl rfl rfl ?_
    obtain ⟨q6, hq6, h⟩ := zz_bd h
    refine ev_cV (as := [.ref 7, .ref b3]) (lsn := [.ref 33, .ref b3, .ref 7, zzU]) (by omega) zo_97_26 zl_97_212 (by rw [zm_30]; rfl) (by rw [zm_30]; exact rfl) (by rw [zm_30]; decide) (by unfold zzIn; rw [zm_30]; rfl) (by rw [zm_30]; exact Nat.le_of_ble_eq_true rfl) (Nat.le_of_ble_eq_true rfl) (G_X1_takes (by omega) b3 7 q4.2 q6 hq6) rfl ?_
    show zzEv _ _ _ _ [.int q6.1] _ _
    by_cases c7 : q6.1 = (0 : Int32)
    · rw [if_pos c7] at h
      refine ev_if_f (t := 35) zo_97_29 rfl (zcm_nne c7) rfl ?_
      refine ev_ldcI zo_97_32 zc_97_159n zc_97_159 rfl ?_
      obtain rfl := Option.some.inj h
      exact ev_retI zo_97_34 zr_97
    rw [if_neg c7] at h
    refine ev_if_t (t := 35) zo_97_29 rfl (zcm_ne c7) ?_
    refine ev_aload_n zo_97_35 rfl rfl rfl rfl ?_
    refine ev_getR zo_97_36 zf_97_32 (by decide) rfl rfl rfl rfl ?_
    refine ev_aload_n zo_97_39 rfl rfl rfl rfl ?_
    refine ev_getR zo_97_40 zf_97_28 (by decide) rfl rfl rfl rfl ?_
    obtain ⟨q8, hq8, h⟩ := zz_bd h
    refine ev_cV (as := [.ref 7]) (lsn := [.ref 14, .ref 7]) (by omega) zo_97_43 zl_97_216 (by rw [zm_1]; rfl) (by rw [zm_1]; exact rfl) (by rw [zm_1]; decide) (by unfold zzIn; rw [zm_1]; rfl) (by rw [zm_1]; exact Nat.le_of_ble_eq_true rfl) (Nat.le_of_ble_eq_true rfl) (G_X0_take (by omega) 14 7 q6.2 q8 hq8) rfl ?_
    show zzEv _ _ _ _ [] _ _
    refine ev_aload_n zo_97_46 rfl rfl rfl rfl ?_
    refine ev_getR zo_97_47 zf_97_52 (by decide) rfl rfl rfl rfl ?_
    refine ev_aload_n zo_97_50 rfl rfl rfl rfl ?_
    refine ev_getR zo_97_51 zf_97_32 (by decide) rfl rfl rfl rfl ?_
    obtain ⟨q9, hq9, h⟩ := zz_bd h
    refine ev_cV (as := [.ref 14]) (lsn := [.ref 33, .ref 14, zzU, zzU, zzU]) (by omega) zo_97_54 zl_97_220 (by rw [zm_34]; rfl) (by rw [zm_34]; exact rfl) (by rw [zm_34]; decide) (by unfold zzIn; rw [zm_34]; rfl) (by rw [zm_34]; exact Nat.le_of_ble_eq_true rfl) (Nat.le_of_ble_eq_true rfl) (G_X1_seek (by omega) 14 q8 q9 hq9) rfl ?_
    show zzEv _ _ _ _ [] _ _
    refine ev_iload_n zo_97_57 rfl rfl rfl ?_
    by_cases c10 : x2 = (0 : Int32)
    · rw [if_pos c10] at h
      refine ev_if_f (t := 71) zo_97_58 rfl (zcm_nne c10) rfl ?_
      refine ev_aload_n zo_97_61 rfl rfl rfl rfl ?_
      refine ev_getR zo_97_62 zf_97_52 (by decide) rfl rfl rfl rfl ?_
      refine ev_getI zo_97_65 zf_97_223 (by decide) (Or.inl rfl) rfl rfl ?_
      refine ev_goto (t := 78) zo_97_68 rfl ?_
      obtain rfl := Option.some.inj h
      exact ev_retI zo_97_78 zr_97
    rw [if_neg c10] at h
    refine ev_if_t (t := 71) zo_97_58 rfl (zcm_ne c10) ?_
    refine ev_aload_n zo_97_71 rfl rfl rfl rfl ?_
    refine ev_getR zo_97_72 zf_97_52 (by decide) rfl rfl rfl rfl ?_
    refine ev_getI zo_97_75 zf_97_226 (by decide) (Or.inl rfl) rfl rfl ?_
    obtain rfl := Option.some.inj h
    exact ev_retI zo_97_78 zr_97
/-! X6_sickMoved -/
def F_X6_sickMoved (x1 : Int32) (x2 : Int32) (x3 : Int32) (J : zzJ) : Option (Int32 × zzJ) := (Option.bind (F_X0_take 14 7 J) fun q1 => (Option.bind (F_X0_move 14 x1 x2 q1) fun q2 => (Option.bind (F_X3_plan 14 x3 q2) fun q3 => (Option.bind (F_X3_sick (-1 : Int32) q3) fun q4 => some (q4.1, q4.2)))))
set_option maxRecDepth 100000 in
set_option maxHeartbeats 2000000 in
theorem G_X6_sickMoved {d : Nat} (hd : 5 ≤ d) (x1 : Int32) (x2 : Int32) (x3 : Int32) (J : zzJ) (r : Int32 × zzJ) (h : F_X6_sickMoved x1 x2 x3 J = some r) : zzEv d 103 0 [.ref 0, .int x1, .int x2, .int x3] [] (zK J) (some (.int r.1), zK r.2) := by
  unfold F_X6_sickMoved at h
  refine ev_aload_n zo_103_0 rfl rfl rfl rfl ?_
  refine ev_getR zo_103_1 zf_103_32 (by decide) rfl rfl rfl rfl ?_
  refine ev_aload_n zo_103_4 rfl rfl rfl rfl ?_
  refine ev_getR zo_103_5 zf_103_28 (by decide) rfl rfl rfl rfl ?_
  obtain ⟨q1, hq1, h⟩ := zz_bd h
  refine ev_cV (as := [.ref 7]) (lsn := [.ref 14, .ref 7]) (by omega) zo_103_8 zl_103_216 (by rw [zm_1]; rfl) (by rw [zm_1]; exact rfl) (by rw [zm_1]; decide) (by unfold zzIn; rw [zm_1]; rfl) (by rw [zm_1]; exact Nat.le_of_ble_eq_true rfl) (Nat.le_of_ble_eq_true rfl) (G_X0_take (by omega) 14 7 J q1 hq1) rfl ?_
  show zzEv _ _ _ _ [] _ _
  refine ev_aload_n zo_103_11 rfl rfl rfl rfl ?_
  refine ev_getR zo_103_12 zf_103_32 (by decide) rfl rfl rfl rfl ?_
  refine ev_iload_n zo_103_15 rfl rfl rfl ?_
  refine ev_iload_n zo_103_16 rfl rfl rfl ?_
  obtain ⟨q2, hq2, h⟩ := zz_bd h
  refine ev_cV (as := [.int x2, .int x1]) (lsn := [.ref 14, .int x1, .int x2]) (by omega) zo_103_17 zl_103_120 (by rw [zm_11]; rfl) (by rw [zm_11]; exact rfl) (by rw [zm_11]; decide) (by unfold zzIn; rw [zm_11]; rfl) (by rw [zm_11]; exact Nat.le_of_ble_eq_true rfl) (Nat.le_of_ble_eq_true rfl) (G_X0_move (by omega) 14 x1 x2 q1 q2 hq2) rfl ?_
  show zzEv _ _ _ _ [] _ _
  refine ev_aload_n zo_103_20 rfl rfl rfl rfl ?_
  refine ev_getR zo_103_21 zf_103_45 (by decide) rfl rfl rfl rfl ?_
  refine ev_aload_n zo_103_24 rfl rfl rfl rfl ?_
  refine ev_getR zo_103_25 zf_103_32 (by decide) rfl rfl rfl rfl ?_
  refine ev_iload_n zo_103_28 rfl rfl rfl ?_
  obtain ⟨q3, hq3, h⟩ := zz_bd h
  refine ev_cV (as := [.int x3, .ref 14]) (lsn := [.ref 28, .ref 14, .int x3, zzU, zzU]) (by omega) zo_103_29 zl_103_163 (by rw [zm_62]; rfl) (by rw [zm_62]; exact rfl) (by rw [zm_62]; decide) (by unfold zzIn; rw [zm_62]; rfl) (by rw [zm_62]; exact Nat.le_of_ble_eq_true rfl) (Nat.le_of_ble_eq_true rfl) (G_X3_plan (by omega) 14 x3 q2 q3 hq3) rfl ?_
  show zzEv _ _ _ _ [] _ _
  refine ev_aload_n zo_103_32 rfl rfl rfl rfl ?_
  refine ev_getR zo_103_33 zf_103_45 (by decide) rfl rfl rfl rfl ?_
  refine ev_iconst (x := (-1)) zo_103_36 (by decide) rfl ?_
  obtain ⟨q4, hq4, h⟩ := zz_bd h
  refine ev_cV (as := [.int (-1 : Int32)]) (lsn := [.ref 28, .int (-1 : Int32), zzU, zzU]) (by omega) zo_103_37 zl_103_167 (by rw [zm_63]; rfl) (by rw [zm_63]; exact rfl) (by rw [zm_63]; decide) (by unfold zzIn; rw [zm_63]; rfl) (by rw [zm_63]; exact Nat.le_of_ble_eq_true rfl) (Nat.le_of_ble_eq_true rfl) (G_X3_sick (by omega) (-1 : Int32) q3 q4 hq4) rfl ?_
  show zzEv _ _ _ _ [.int q4.1] _ _
  obtain rfl := Option.some.inj h
  exact ev_retI zo_103_40 zr_103
/-! X6_front -/
def F_X6_front_118 (l2 : Int32) (l4 : Int32) (l5 : Int32) (J : zzJ) : Option (Int32 × zzJ) := (if l2 = (0 : Int32) then some (l4, J) else some (l5, J))
set_option maxRecDepth 100000 in
set_option maxHeartbeats 2000000 in
theorem G_X6_front_118 {d : Nat} (hd : 6 ≤ d) : ∀ (l2 : Int32) (l4 : Int32) (l5 : Int32) (J : zzJ) (r : Int32 × zzJ), F_X6_front_118 l2 l4 l5 J = some r → ∀ (lv1 : Value) (hlv1 : lv1.category = 1), ∀ (lv3 : Value) (hlv3 : lv3.category = 1), ∀ (lv6 : Value) (hlv6 : lv6.category = 1), ∀ (lv7 : Value) (hlv7 : lv7.category = 1), zzEv d 98 118 [.ref 0, lv1, .int l2, lv3, .int l4, .int l5, lv6, lv7] [] (zK J) (some (.int r.1), zK r.2) := by
  intro l2 l4 l5 J r h lv1 hlv1 lv3 hlv3 lv6 hlv6 lv7 hlv7
  unfold F_X6_front_118 at h
  refine ev_iload_n zo_98_118 rfl rfl rfl ?_
  by_cases c1 : l2 = (0 : Int32)
  · rw [if_pos c1] at h
    refine ev_if_f (t := 127) zo_98_119 rfl (zcm_nne c1) rfl ?_
    refine ev_iload zo_98_122 rfl rfl ?_
    refine ev_goto (t := 129) zo_98_124 rfl ?_
    obtain rfl := Option.some.inj h
    exact ev_retI zo_98_129 zr_98
  rw [if_neg c1] at h
  refine ev_if_t (t := 127) zo_98_119 rfl (zcm_ne c1) ?_
  refine ev_iload zo_98_127 rfl rfl ?_
  obtain rfl := Option.some.inj h
  exact ev_retI zo_98_129 zr_98
def F_X6_front_95 (kl_53 : Int32 → Int32 → Int32 → Int32 → Int32 → Int32 → zzJ → Option (Int32 × zzJ)) (l1 : Int32) (l2 : Int32) (l3 : Int32) (l4 : Int32) (l5 : Int32) (l6 : Int32) (t0 : Int32) (J : zzJ) : Option (Int32 × zzJ) := (if t0 < l5 then kl_53 l1 l2 l3 l6 t0 (l6 + 1) J else kl_53 l1 l2 l3 l4 l5 (l6 + 1) J)
set_option maxRecDepth 100000 in
set_option maxHeartbeats 2000000 in
theorem G_X6_front_95 {d : Nat} (kl_53 : Int32 → Int32 → Int32 → Int32 → Int32 → Int32 → zzJ → Option (Int32 × zzJ)) (hkl_53 : ∀ (l1 : Int32) (l2 : Int32) (l3 : Int32) (l4 : Int32) (l5 : Int32) (l6 : Int32) (J : zzJ) (r : Int32 × zzJ), kl_53 l1 l2 l3 l4 l5 l6 J = some r → ∀ (lv7 : Value) (hlv7 : lv7.category = 1), zzEv d 98 53 [.ref 0, .int l1, .int l2, .int l3, .int l4, .int l5, .int l6, lv7] [] (zK J) (some (.int r.1), zK r.2)) (hd : 6 ≤ d) : ∀ (l1 : Int32) (l2 : Int32) (l3 : Int32) (l4 : Int32) (l5 : Int32) (l6 : Int32) (t0 : Int32) (J : zzJ) (r : Int32 × zzJ), F_X6_front_95 kl_53 l1 l2 l3 l4 l5 l6 t0 J = some r → ∀ (lv7 : Value) (hlv7 : lv7.category = 1), zzEv d 98 95 [.ref 0, .int l1, .int l2, .int l3, .int l4, .int l5, .int l6, lv7] [.int t0] (zK J) (some (.int r.1), zK r.2) := by
  intro l1 l2 l3 l4 l5 l6 t0 J r h lv7 hlv7
  unfold F_X6_front_95 at h
  refine ev_istore zo_98_95 (zz_set rfl (by decide) (Nat.le_of_ble_eq_true rfl)) rfl ?_
  show zzEv _ _ _ [.ref 0, .int l1, .int l2, .int l3, .int l4, .int l5, .int l6, .int t0] _ _ _
  refine ev_iload zo_98_97 rfl rfl ?_
  refine ev_iload zo_98_99 rfl rfl ?_
  by_cases c2 : t0 < l5
  · rw [if_pos c2] at h
    refine ev_cmp_f (t := 112) zo_98_101 rfl (zcm_nge c2) rfl ?_
    refine ev_iload zo_98_104 rfl rfl ?_
    refine ev_istore zo_98_106 (zz_set rfl (by decide) (Nat.le_of_ble_eq_true rfl)) rfl ?_
    show zzEv _ _ _ [.ref 0, .int l1, .int l2, .int l3, .int l6, .int l5, .int l6, .int t0] _ _ _
    refine ev_iload zo_98_108 rfl rfl ?_
    refine ev_istore zo_98_110 (zz_set rfl (by decide) (Nat.le_of_ble_eq_true rfl)) rfl ?_
    show zzEv _ _ _ [.ref 0, .int l1, .int l2, .int l3, .int l6, .int t0, .int l6, .int t0] _ _ _
    refine ev_iinc (v := 1) zo_98_112 rfl (by decide) (zz_set rfl (by decide) (Nat.le_of_ble_eq_true rfl)) rfl ?_
    show zzEv _ _ _ [.ref 0, .int l1, .int l2, .int l3, .int l6, .int t0, .int (l6 + 1), .int t0] _ _ _
    refine ev_goto (t := 53) zo_98_115 rfl ?_
    exact hkl_53 l1 l2 l3 l6 t0 (l6 + 1) J r h (.int t0) rfl
  rw [if_neg c2] at h
  refine ev_cmp_t (t := 112) zo_98_101 rfl (zcm_ge c2) ?_
  refine ev_iinc (v := 1) zo_98_112 rfl (by decide) (zz_set rfl (by decide) (Nat.le_of_ble_eq_true rfl)) rfl ?_
  show zzEv _ _ _ [.ref 0, .int l1, .int l2, .int l3, .int l4, .int l5, .int (l6 + 1), .int t0] _ _ _
  refine ev_goto (t := 53) zo_98_115 rfl ?_
  exact hkl_53 l1 l2 l3 l4 l5 (l6 + 1) J r h (.int t0) rfl
def F_X6_front_53 : Nat → Int32 → Int32 → Int32 → Int32 → Int32 → Int32 → zzJ → Option (Int32 × zzJ)
  | 0, _, _, _, _, _, _, _ => none
  | n + 1, l1, l2, l3, l4, l5, l6, J => (if l6 < (J.2 7 4) then (if l3 = (-1 : Int32) then F_X6_front_118 l2 l4 l5 J else (Option.bind (F_X0_sits 7 l6 J) fun q5 => (if q5.1 = (0 : Int32) then F_X6_front_95 (F_X6_front_53 n) l1 l2 l3 l4 l5 l6 l5 q5.2 else (Option.bind (F_X6_sickMoved l6 l3 l1 q5.2) fun q7 => F_X6_front_95 (F_X6_front_53 n) l1 l2 l3 l4 l5 l6 q7.1 q7.2)))) else F_X6_front_118 l2 l4 l5 J)
set_option maxRecDepth 100000 in
set_option maxHeartbeats 2000000 in
theorem G_X6_front_53 {d : Nat} (hd : 6 ≤ d) : ∀ (n : Nat) (l1 : Int32) (l2 : Int32) (l3 : Int32) (l4 : Int32) (l5 : Int32) (l6 : Int32) (J : zzJ) (r : Int32 × zzJ), F_X6_front_53 n l1 l2 l3 l4 l5 l6 J = some r → ∀ (lv7 : Value) (hlv7 : lv7.category = 1), zzEv d 98 53 [.ref 0, .int l1, .int l2, .int l3, .int l4, .int l5, .int l6, lv7] [] (zK J) (some (.int r.1), zK r.2) := by
  intro n
  induction n with
  | zero => intro l1 l2 l3 l4 l5 l6 J r h; simp [F_X6_front_53] at h
  | succ n ih =>
    intro l1 l2 l3 l4 l5 l6 J r h lv7 hlv7
    rw [F_X6_front_53] at h
    refine ev_iload zo_98_53 rfl rfl ?_
    refine ev_aload_n zo_98_55 rfl rfl rfl rfl ?_
    refine ev_getR zo_98_56 zf_98_28 (by decide) rfl rfl rfl rfl ?_
    refine ev_getI zo_98_59 zf_98_108 (by decide) (Or.inl rfl) rfl rfl ?_
    by_cases c3 : l6 < (J.2 7 4)
    · rw [if_pos c3] at h
      refine ev_cmp_f (t := 118) zo_98_62 rfl (zcm_nge c3) rfl ?_
      refine ev_iload_n zo_98_65 rfl rfl rfl ?_
      refine ev_iconst (x := (-1)) zo_98_66 (by decide) rfl ?_
      by_cases c4 : l3 = (-1 : Int32)
      · rw [if_pos c4] at h
        refine ev_cmp_t (t := 118) zo_98_67 rfl (zcm_eq c4) ?_
        exact G_X6_front_118 hd l2 l4 l5 J r h (.int l1) rfl (.int l3) rfl (.int l6) rfl (lv7) hlv7
      rw [if_neg c4] at h
      refine ev_cmp_f (t := 118) zo_98_67 rfl (zcm_neq c4) rfl ?_
      refine ev_aload_n zo_98_70 rfl rfl rfl rfl ?_
      refine ev_getR zo_98_71 zf_98_28 (by decide) rfl rfl rfl rfl ?_
      refine ev_iload zo_98_74 rfl rfl ?_
      obtain ⟨q5, hq5, h⟩ := zz_bd h
      refine ev_cV (as := [.int l6]) (lsn := [.ref 7, .int l6]) (by omega) zo_98_76 zl_98_193 (by rw [zm_8]; rfl) (by rw [zm_8]; exact rfl) (by rw [zm_8]; decide) (by unfold zzIn; rw [zm_8]; rfl) (by rw [zm_8]; exact Nat.le_of_ble_eq_true rfl) (Nat.le_of_ble_eq_true rfl) (G_X0_sits (by omega) 7 l6 J q5 hq5) rfl ?_
      show zzEv _ _ _ _ [.int q5.1] _ _
      by_cases c6 : q5.1 = (0 : Int32)
      · rw [if_pos c6] at h
        refine ev_if_t (t := 93) zo_98_79 rfl (zcm_eq c6) ?_
        refine ev_iload zo_98_93 rfl rfl ?_
        exact G_X6_front_95 (F_X6_front_53 n) ih hd l1 l2 l3 l4 l5 l6 l5 q5.2 r h (lv7) hlv7
      rw [if_neg c6] at h
      refine ev_if_f (t := 93) zo_98_79 rfl (zcm_neq c6) rfl ?_
      refine ev_aload_n zo_98_82 rfl rfl rfl rfl ?_
      refine ev_iload zo_98_83 rfl rfl ?_
      refine ev_iload_n zo_98_85 rfl rfl rfl ?_
      refine ev_iload_n zo_98_86 rfl rfl rfl ?_
      obtain ⟨q7, hq7, h⟩ := zz_bd h
      refine ev_cV (as := [.int l1, .int l3, .int l6]) (lsn := [.ref 0, .int l6, .int l3, .int l1]) (by omega) zo_98_87 zl_98_232 (by rw [zm_103]; rfl) (by rw [zm_103]; exact rfl) (by rw [zm_103]; decide) (by unfold zzIn; rw [zm_103]; rfl) (by rw [zm_103]; exact Nat.le_of_ble_eq_true rfl) (Nat.le_of_ble_eq_true rfl) (G_X6_sickMoved (by omega) l6 l3 l1 q5.2 q7 hq7) rfl ?_
      show zzEv _ _ _ _ [.int q7.1] _ _
      refine ev_goto (t := 95) zo_98_90 rfl ?_
      exact G_X6_front_95 (F_X6_front_53 n) ih hd l1 l2 l3 l4 l5 l6 q7.1 q7.2 r h (lv7) hlv7
    rw [if_neg c3] at h
    refine ev_cmp_t (t := 118) zo_98_62 rfl (zcm_ge c3) ?_
    exact G_X6_front_118 hd l2 l4 l5 J r h (.int l1) rfl (.int l3) rfl (.int l6) rfl (lv7) hlv7
def F_X6_front (x1 : Int32) (x2 : Int32) (J : zzJ) : Option (Int32 × zzJ) := (Option.bind (F_X6_isRide x1 J) fun q8 => (if q8.1 = (0 : Int32) then some ((-2 : Int32), q8.2) else (Option.bind (F_X6_isZeroOrOne x2 q8.2) fun q10 => (if q10.1 = (0 : Int32) then some ((-2 : Int32), q10.2) else (Option.bind (F_X0_firstFreeInFront 7 q10.2) fun q12 => (Option.bind (F_X3_plan 7 x1 q12.2) fun q13 => (Option.bind (F_X3_sick (-1 : Int32) q13) fun q14 => F_X6_front_53 4096 x1 x2 q12.1 (-1 : Int32) q14.1 (0 : Int32) q14.2)))))))
set_option maxRecDepth 100000 in
set_option maxHeartbeats 2000000 in
theorem G_X6_front {d : Nat} (hd : 6 ≤ d) (x1 : Int32) (x2 : Int32) (J : zzJ) (r : Int32 × zzJ) (h : F_X6_front x1 x2 J = some r) : zzEv d 98 0 [.ref 0, .int x1, .int x2, zzU, zzU, zzU, zzU, zzU] [] (zK J) (some (.int r.1), zK r.2) := by
  unfold F_X6_front at h
  refine ev_iload_n zo_98_0 rfl rfl rfl ?_
  obtain ⟨q8, hq8, h⟩ := zz_bd h
  refine ev_cS (as := [.int x1]) (lsn := [.int x1]) (by omega) zo_98_1 zl_98_160 (by decide) (by rw [zm_93]; rfl) (by unfold zzIn; rw [zm_93]; rfl) (by rw [zm_93]; exact Nat.le_of_ble_eq_true rfl) (Nat.le_of_ble_eq_true rfl) (G_X6_isRide (by omega) x1 J q8 hq8) rfl ?_
  show zzEv _ _ _ _ [.int q8.1] _ _
  by_cases c9 : q8.1 = (0 : Int32)
  · rw [if_pos c9] at h
    refine ev_if_t (t := 14) zo_98_4 rfl (zcm_eq c9) ?_
    refine ev_bipush (x := (-2)) zo_98_14 (by decide) rfl ?_
    obtain rfl := Option.some.inj h
    exact ev_retI zo_98_16 zr_98
  rw [if_neg c9] at h
  refine ev_if_f (t := 14) zo_98_4 rfl (zcm_neq c9) rfl ?_
  refine ev_iload_n zo_98_7 rfl rfl rfl ?_
  obtain ⟨q10, hq10, h⟩ := zz_bd h
  refine ev_cS (as := [.int x2]) (lsn := [.int x2]) (by omega) zo_98_8 zl_98_183 (by decide) (by rw [zm_100]; rfl) (by unfold zzIn; rw [zm_100]; rfl) (by rw [zm_100]; exact Nat.le_of_ble_eq_true rfl) (Nat.le_of_ble_eq_true rfl) (G_X6_isZeroOrOne (by omega) x2 q8.2 q10 hq10) rfl ?_
  show zzEv _ _ _ _ [.int q10.1] _ _
  by_cases c11 : q10.1 = (0 : Int32)
  · rw [if_pos c11] at h
    refine ev_if_f (t := 17) zo_98_11 rfl (zcm_nne c11) rfl ?_
    refine ev_bipush (x := (-2)) zo_98_14 (by decide) rfl ?_
    obtain rfl := Option.some.inj h
    exact ev_retI zo_98_16 zr_98
  rw [if_neg c11] at h
  refine ev_if_t (t := 17) zo_98_11 rfl (zcm_ne c11) ?_
  refine ev_aload_n zo_98_17 rfl rfl rfl rfl ?_
  refine ev_getR zo_98_18 zf_98_28 (by decide) rfl rfl rfl rfl ?_
  obtain ⟨q12, hq12, h⟩ := zz_bd h
  refine ev_cV (as := []) (lsn := [.ref 7, zzU]) (by omega) zo_98_21 zl_98_229 (by rw [zm_14]; rfl) (by rw [zm_14]; exact rfl) (by rw [zm_14]; decide) (by unfold zzIn; rw [zm_14]; rfl) (by rw [zm_14]; exact Nat.le_of_ble_eq_true rfl) (Nat.le_of_ble_eq_true rfl) (G_X0_firstFreeInFront (by omega) 7 q10.2 q12 hq12) rfl ?_
  show zzEv _ _ _ _ [.int q12.1] _ _
  refine ev_istore_n zo_98_24 rfl (zz_set rfl (by decide) (Nat.le_of_ble_eq_true rfl)) rfl ?_
  show zzEv _ _ _ [.ref 0, .int x1, .int x2, .int q12.1, zzU, zzU, zzU, zzU] _ _ _
  refine ev_iconst (x := (-1)) zo_98_25 (by decide) rfl ?_
  refine ev_istore zo_98_26 (zz_set rfl (by decide) (Nat.le_of_ble_eq_true rfl)) rfl ?_
  show zzEv _ _ _ [.ref 0, .int x1, .int x2, .int q12.1, .int (-1 : Int32), zzU, zzU, zzU] _ _ _
  refine ev_aload_n zo_98_28 rfl rfl rfl rfl ?_
  refine ev_getR zo_98_29 zf_98_45 (by decide) rfl rfl rfl rfl ?_
  refine ev_aload_n zo_98_32 rfl rfl rfl rfl ?_
  refine ev_getR zo_98_33 zf_98_28 (by decide) rfl rfl rfl rfl ?_
  refine ev_iload_n zo_98_36 rfl rfl rfl ?_
  obtain ⟨q13, hq13, h⟩ := zz_bd h
  refine ev_cV (as := [.int x1, .ref 7]) (lsn := [.ref 28, .ref 7, .int x1, zzU, zzU]) (by omega) zo_98_37 zl_98_163 (by rw [zm_62]; rfl) (by rw [zm_62]; exact rfl) (by rw [zm_62]; decide) (by unfold zzIn; rw [zm_62]; rfl) (by rw [zm_62]; exact Nat.le_of_ble_eq_true rfl) (Nat.le_of_ble_eq_true rfl) (G_X3_plan (by omega) 7 x1 q12.2 q13 hq13) rfl ?_
  show zzEv _ _ _ _ [] _ _
  refine ev_aload_n zo_98_40 rfl rfl rfl rfl ?_
  refine ev_getR zo_98_41 zf_98_45 (by decide) rfl rfl rfl rfl ?_
  refine ev_iconst (x := (-1)) zo_98_44 (by decide) rfl ?_
  obtain ⟨q14, hq14, h⟩ := zz_bd h
  refine ev_cV (as := [.int (-1 : Int32)]) (lsn := [.ref 28, .int (-1 : Int32), zzU, zzU]) (by omega) zo_98_45 zl_98_167 (by rw [zm_63]; rfl) (by rw [zm_63]; exact rfl) (by rw [zm_63]; decide) (by unfold zzIn; rw [zm_63]; rfl) (by rw [zm_63]; exact Nat.le_of_ble_eq_true rfl) (Nat.le_of_ble_eq_true rfl) (G_X3_sick (by omega) (-1 : Int32) q13 q14 hq14) rfl ?_
  show zzEv _ _ _ _ [.int q14.1] _ _
  refine ev_istore zo_98_48 (zz_set rfl (by decide) (Nat.le_of_ble_eq_true rfl)) rfl ?_
  show zzEv _ _ _ [.ref 0, .int x1, .int x2, .int q12.1, .int (-1 : Int32), .int q14.1, zzU, zzU] _ _ _
  refine ev_iconst (x := 0) zo_98_50 (by decide) rfl ?_
  refine ev_istore zo_98_51 (zz_set rfl (by decide) (Nat.le_of_ble_eq_true rfl)) rfl ?_
  show zzEv _ _ _ [.ref 0, .int x1, .int x2, .int q12.1, .int (-1 : Int32), .int q14.1, .int (0 : Int32), zzU] _ _ _
  exact G_X6_front_53 hd 4096 x1 x2 q12.1 (-1 : Int32) q14.1 (0 : Int32) q14.2 r h (zzU) rfl
/-! X6_stop -/
def F_X6_stop_44 : Nat → Int32 → Int32 → Int32 → Int32 → Int32 → zzJ → Option (Int32 × zzJ)
  | 0, _, _, _, _, _, _ => none
  | n + 1, l1, l2, l3, l4, l5, J => (if l5 < l1 then (Option.bind (F_X3_sick l5 J) fun q3 => (if q3.1 < l4 then F_X6_stop_44 n l1 l2 l5 q3.1 (l5 + 1) q3.2 else F_X6_stop_44 n l1 l2 l3 l4 (l5 + 1) q3.2)) else (if l2 = (0 : Int32) then some (l3, J) else some (l4, J)))
set_option maxRecDepth 100000 in
set_option maxHeartbeats 2000000 in
theorem G_X6_stop_44 {d : Nat} (hd : 5 ≤ d) : ∀ (n : Nat) (l1 : Int32) (l2 : Int32) (l3 : Int32) (l4 : Int32) (l5 : Int32) (J : zzJ) (r : Int32 × zzJ), F_X6_stop_44 n l1 l2 l3 l4 l5 J = some r → ∀ (lv6 : Value) (hlv6 : lv6.category = 1), zzEv d 99 44 [.ref 0, .int l1, .int l2, .int l3, .int l4, .int l5, lv6] [] (zK J) (some (.int r.1), zK r.2) := by
  intro n
  induction n with
  | zero => intro l1 l2 l3 l4 l5 J r h; simp [F_X6_stop_44] at h
  | succ n ih =>
    intro l1 l2 l3 l4 l5 J r h lv6 hlv6
    rw [F_X6_stop_44] at h
    refine ev_iload zo_99_44 rfl rfl ?_
    refine ev_iload_n zo_99_46 rfl rfl rfl ?_
    by_cases c1 : l5 < l1
    · rw [if_pos c1] at h
      refine ev_cmp_f (t := 81) zo_99_47 rfl (zcm_nge c1) rfl ?_
      refine ev_aload_n zo_99_50 rfl rfl rfl rfl ?_
      refine ev_getR zo_99_51 zf_99_45 (by decide) rfl rfl rfl rfl ?_
      refine ev_iload zo_99_54 rfl rfl ?_
      obtain ⟨q3, hq3, h⟩ := zz_bd h
      refine ev_cV (as := [.int l5]) (lsn := [.ref 28, .int l5, zzU, zzU]) (by omega) zo_99_56 zl_99_167 (by rw [zm_63]; rfl) (by rw [zm_63]; exact rfl) (by rw [zm_63]; decide) (by unfold zzIn; rw [zm_63]; rfl) (by rw [zm_63]; exact Nat.le_of_ble_eq_true rfl) (Nat.le_of_ble_eq_true rfl) (G_X3_sick (by omega) l5 J q3 hq3) rfl ?_
      show zzEv _ _ _ _ [.int q3.1] _ _
      refine ev_istore zo_99_59 (zz_set rfl (by decide) (Nat.le_of_ble_eq_true rfl)) rfl ?_
      show zzEv _ _ _ [.ref 0, .int l1, .int l2, .int l3, .int l4, .int l5, .int q3.1] _ _ _
      refine ev_iload zo_99_61 rfl rfl ?_
      refine ev_iload zo_99_63 rfl rfl ?_
      by_cases c4 : q3.1 < l4
      · rw [if_pos c4] at h
        refine ev_cmp_f (t := 75) zo_99_65 rfl (zcm_nge c4) rfl ?_
        refine ev_iload zo_99_68 rfl rfl ?_
        refine ev_istore_n zo_99_70 rfl (zz_set rfl (by decide) (Nat.le_of_ble_eq_true rfl)) rfl ?_
        show zzEv _ _ _ [.ref 0, .int l1, .int l2, .int l5, .int l4, .int l5, .int q3.1] _ _ _
        refine ev_iload zo_99_71 rfl rfl ?_
        refine ev_istore zo_99_73 (zz_set rfl (by decide) (Nat.le_of_ble_eq_true rfl)) rfl ?_
        show zzEv _ _ _ [.ref 0, .int l1, .int l2, .int l5, .int q3.1, .int l5, .int q3.1] _ _ _
        refine ev_iinc (v := 1) zo_99_75 rfl (by decide) (zz_set rfl (by decide) (Nat.le_of_ble_eq_true rfl)) rfl ?_
        show zzEv _ _ _ [.ref 0, .int l1, .int l2, .int l5, .int q3.1, .int (l5 + 1), .int q3.1] _ _ _
        refine ev_goto (t := 44) zo_99_78 rfl ?_
        exact ih l1 l2 l5 q3.1 (l5 + 1) q3.2 r h (.int q3.1) rfl
      rw [if_neg c4] at h
      refine ev_cmp_t (t := 75) zo_99_65 rfl (zcm_ge c4) ?_
      refine ev_iinc (v := 1) zo_99_75 rfl (by decide) (zz_set rfl (by decide) (Nat.le_of_ble_eq_true rfl)) rfl ?_
      show zzEv _ _ _ [.ref 0, .int l1, .int l2, .int l3, .int l4, .int (l5 + 1), .int q3.1] _ _ _
      refine ev_goto (t := 44) zo_99_78 rfl ?_
      exact ih l1 l2 l3 l4 (l5 + 1) q3.2 r h (.int q3.1) rfl
    rw [if_neg c1] at h
    refine ev_cmp_t (t := 81) zo_99_47 rfl (zcm_ge c1) ?_
    refine ev_iload_n zo_99_81 rfl rfl rfl ?_
    by_cases c2 : l2 = (0 : Int32)
    · rw [if_pos c2] at h
      refine ev_if_f (t := 89) zo_99_82 rfl (zcm_nne c2) rfl ?_
      refine ev_iload_n zo_99_85 rfl rfl rfl ?_
      refine ev_goto (t := 91) zo_99_86 rfl ?_
      obtain rfl := Option.some.inj h
      exact ev_retI zo_99_91 zr_99
    rw [if_neg c2] at h
    refine ev_if_t (t := 89) zo_99_82 rfl (zcm_ne c2) ?_
    refine ev_iload zo_99_89 rfl rfl ?_
    obtain rfl := Option.some.inj h
    exact ev_retI zo_99_91 zr_99
def F_X6_stop (x1 : Int32) (x2 : Int32) (J : zzJ) : Option (Int32 × zzJ) := (Option.bind (F_X6_isRide x1 J) fun q5 => (if q5.1 = (0 : Int32) then some ((-2 : Int32), q5.2) else (Option.bind (F_X6_isZeroOrOne x2 q5.2) fun q7 => (if q7.1 = (0 : Int32) then some ((-2 : Int32), q7.2) else (Option.bind (F_X3_plan 7 x1 q7.2) fun q9 => (Option.bind (F_X3_sick (-1 : Int32) q9) fun q10 => F_X6_stop_44 4096 x1 x2 (-1 : Int32) q10.1 (0 : Int32) q10.2))))))
set_option maxRecDepth 100000 in
set_option maxHeartbeats 2000000 in
theorem G_X6_stop {d : Nat} (hd : 5 ≤ d) (x1 : Int32) (x2 : Int32) (J : zzJ) (r : Int32 × zzJ) (h : F_X6_stop x1 x2 J = some r) : zzEv d 99 0 [.ref 0, .int x1, .int x2, zzU, zzU, zzU, zzU] [] (zK J) (some (.int r.1), zK r.2) := by
  unfold F_X6_stop at h
  refine ev_iload_n zo_99_0 rfl rfl rfl ?_
  obtain ⟨q5, hq5, h⟩ := zz_bd h
  refine ev_cS (as := [.int x1]) (lsn := [.int x1]) (by omega) zo_99_1 zl_99_160 (by decide) (by rw [zm_93]; rfl) (by unfold zzIn; rw [zm_93]; rfl) (by rw [zm_93]; exact Nat.le_of_ble_eq_true rfl) (Nat.le_of_ble_eq_true rfl) (G_X6_isRide (by omega) x1 J q5 hq5) rfl ?_
  show zzEv _ _ _ _ [.int q5.1] _ _
  by_cases c6 : q5.1 = (0 : Int32)
  · rw [if_pos c6] at h
    refine ev_if_t (t := 14) zo_99_4 rfl (zcm_eq c6) ?_
    refine ev_bipush (x := (-2)) zo_99_14 (by decide) rfl ?_
    obtain rfl := Option.some.inj h
    exact ev_retI zo_99_16 zr_99
  rw [if_neg c6] at h
  refine ev_if_f (t := 14) zo_99_4 rfl (zcm_neq c6) rfl ?_
  refine ev_iload_n zo_99_7 rfl rfl rfl ?_
  obtain ⟨q7, hq7, h⟩ := zz_bd h
  refine ev_cS (as := [.int x2]) (lsn := [.int x2]) (by omega) zo_99_8 zl_99_183 (by decide) (by rw [zm_100]; rfl) (by unfold zzIn; rw [zm_100]; rfl) (by rw [zm_100]; exact Nat.le_of_ble_eq_true rfl) (Nat.le_of_ble_eq_true rfl) (G_X6_isZeroOrOne (by omega) x2 q5.2 q7 hq7) rfl ?_
  show zzEv _ _ _ _ [.int q7.1] _ _
  by_cases c8 : q7.1 = (0 : Int32)
  · rw [if_pos c8] at h
    refine ev_if_f (t := 17) zo_99_11 rfl (zcm_nne c8) rfl ?_
    refine ev_bipush (x := (-2)) zo_99_14 (by decide) rfl ?_
    obtain rfl := Option.some.inj h
    exact ev_retI zo_99_16 zr_99
  rw [if_neg c8] at h
  refine ev_if_t (t := 17) zo_99_11 rfl (zcm_ne c8) ?_
  refine ev_aload_n zo_99_17 rfl rfl rfl rfl ?_
  refine ev_getR zo_99_18 zf_99_45 (by decide) rfl rfl rfl rfl ?_
  refine ev_aload_n zo_99_21 rfl rfl rfl rfl ?_
  refine ev_getR zo_99_22 zf_99_28 (by decide) rfl rfl rfl rfl ?_
  refine ev_iload_n zo_99_25 rfl rfl rfl ?_
  obtain ⟨q9, hq9, h⟩ := zz_bd h
  refine ev_cV (as := [.int x1, .ref 7]) (lsn := [.ref 28, .ref 7, .int x1, zzU, zzU]) (by omega) zo_99_26 zl_99_163 (by rw [zm_62]; rfl) (by rw [zm_62]; exact rfl) (by rw [zm_62]; decide) (by unfold zzIn; rw [zm_62]; rfl) (by rw [zm_62]; exact Nat.le_of_ble_eq_true rfl) (Nat.le_of_ble_eq_true rfl) (G_X3_plan (by omega) 7 x1 q7.2 q9 hq9) rfl ?_
  show zzEv _ _ _ _ [] _ _
  refine ev_iconst (x := (-1)) zo_99_29 (by decide) rfl ?_
  refine ev_istore_n zo_99_30 rfl (zz_set rfl (by decide) (Nat.le_of_ble_eq_true rfl)) rfl ?_
  show zzEv _ _ _ [.ref 0, .int x1, .int x2, .int (-1 : Int32), zzU, zzU, zzU] _ _ _
  refine ev_aload_n zo_99_31 rfl rfl rfl rfl ?_
  refine ev_getR zo_99_32 zf_99_45 (by decide) rfl rfl rfl rfl ?_
  refine ev_iconst (x := (-1)) zo_99_35 (by decide) rfl ?_
  obtain ⟨q10, hq10, h⟩ := zz_bd h
  refine ev_cV (as := [.int (-1 : Int32)]) (lsn := [.ref 28, .int (-1 : Int32), zzU, zzU]) (by omega) zo_99_36 zl_99_167 (by rw [zm_63]; rfl) (by rw [zm_63]; exact rfl) (by rw [zm_63]; decide) (by unfold zzIn; rw [zm_63]; rfl) (by rw [zm_63]; exact Nat.le_of_ble_eq_true rfl) (Nat.le_of_ble_eq_true rfl) (G_X3_sick (by omega) (-1 : Int32) q9 q10 hq10) rfl ?_
  show zzEv _ _ _ _ [.int q10.1] _ _
  refine ev_istore zo_99_39 (zz_set rfl (by decide) (Nat.le_of_ble_eq_true rfl)) rfl ?_
  show zzEv _ _ _ [.ref 0, .int x1, .int x2, .int (-1 : Int32), .int q10.1, zzU, zzU] _ _ _
  refine ev_iconst (x := 0) zo_99_41 (by decide) rfl ?_
  refine ev_istore zo_99_42 (zz_set rfl (by decide) (Nat.le_of_ble_eq_true rfl)) rfl ?_
  show zzEv _ _ _ [.ref 0, .int x1, .int x2, .int (-1 : Int32), .int q10.1, .int (0 : Int32), zzU] _ _ _
  exact G_X6_stop_44 hd 4096 x1 x2 (-1 : Int32) q10.1 (0 : Int32) q10.2 r h (zzU) rfl
/-! X6_textsTold -/
def F_X6_textsTold_4 : Nat → Nat → Int32 → Int32 → zzJ → Option (Int32 × zzJ)
  | 0, _, _, _, _ => none
  | n + 1, l1, l2, l3, J => (if l3 < (J.2 1 3) then (Option.bind (F_X0_otherwise 14 l1 (wI J 14 3 l3)) fun q2 => (if q2.1 = (0 : Int32) then F_X6_textsTold_4 n l1 (l2 ||| ((1 : Int32) <<< (l3 &&& 31))) (l3 + 1) q2.2 else F_X6_textsTold_4 n l1 l2 (l3 + 1) q2.2)) else some (l2, J))
set_option maxRecDepth 100000 in
set_option maxHeartbeats 2000000 in
theorem G_X6_textsTold_4 {d : Nat} (hd : 5 ≤ d) : ∀ (n : Nat) (l1 : Nat) (l2 : Int32) (l3 : Int32) (J : zzJ) (r : Int32 × zzJ), F_X6_textsTold_4 n l1 l2 l3 J = some r → zzEv d 105 4 [.ref 0, .ref l1, .int l2, .int l3] [] (zK J) (some (.int r.1), zK r.2) := by
  intro n
  induction n with
  | zero => intro l1 l2 l3 J r h; simp [F_X6_textsTold_4] at h
  | succ n ih =>
    intro l1 l2 l3 J r h
    rw [F_X6_textsTold_4] at h
    refine ev_iload_n zo_105_4 rfl rfl rfl ?_
    refine ev_aload_n zo_105_5 rfl rfl rfl rfl ?_
    refine ev_getR zo_105_6 zf_105_12 (by decide) rfl rfl rfl rfl ?_
    refine ev_getI zo_105_9 zf_105_146 (by decide) (Or.inl rfl) rfl rfl ?_
    by_cases c1 : l3 < (J.2 1 3)
    · rw [if_pos c1] at h
      refine ev_cmp_f (t := 46) zo_105_12 rfl (zcm_nge c1) rfl ?_
      refine ev_aload_n zo_105_15 rfl rfl rfl rfl ?_
      refine ev_getR zo_105_16 zf_105_32 (by decide) rfl rfl rfl rfl ?_
      refine ev_iload_n zo_105_19 rfl rfl rfl ?_
      refine ev_putI zo_105_20 zf_105_147 (by decide) rfl rfl rfl rfl ?_
      refine ev_aload_n zo_105_23 rfl rfl rfl rfl ?_
      refine ev_getR zo_105_24 zf_105_32 (by decide) rfl rfl rfl rfl ?_
      refine ev_aload_n zo_105_27 rfl rfl rfl rfl ?_
      obtain ⟨q2, hq2, h⟩ := zz_bd h
      refine ev_cV (as := [.ref l1]) (lsn := [.ref 14, .ref l1, zzU, zzU]) (by omega) zo_105_28 zl_105_255 (by rw [zm_28]; rfl) (by rw [zm_28]; exact rfl) (by rw [zm_28]; decide) (by unfold zzIn; rw [zm_28]; rfl) (by rw [zm_28]; exact Nat.le_of_ble_eq_true rfl) (Nat.le_of_ble_eq_true rfl) (G_X0_otherwise (by omega) 14 l1 (wI J 14 3 l3) q2 hq2) rfl ?_
      show zzEv _ _ _ _ [.int q2.1] _ _
      by_cases c3 : q2.1 = (0 : Int32)
      · rw [if_pos c3] at h
        refine ev_if_f (t := 40) zo_105_31 rfl (zcm_nne c3) rfl ?_
        refine ev_iload_n zo_105_34 rfl rfl rfl ?_
        refine ev_iconst (x := 1) zo_105_35 (by decide) rfl ?_
        refine ev_iload_n zo_105_36 rfl rfl rfl ?_
        refine ev_ishl zo_105_37 rfl ?_
        refine ev_ior zo_105_38 rfl ?_
        refine ev_istore_n zo_105_39 rfl (zz_set rfl (by decide) (Nat.le_of_ble_eq_true rfl)) rfl ?_
        show zzEv _ _ _ [.ref 0, .ref l1, .int (l2 ||| ((1 : Int32) <<< (l3 &&& 31))), .int l3] _ _ _
        refine ev_iinc (v := 1) zo_105_40 rfl (by decide) (zz_set rfl (by decide) (Nat.le_of_ble_eq_true rfl)) rfl ?_
        show zzEv _ _ _ [.ref 0, .ref l1, .int (l2 ||| ((1 : Int32) <<< (l3 &&& 31))), .int (l3 + 1)] _ _ _
        refine ev_goto (t := 4) zo_105_43 rfl ?_
        exact ih l1 (l2 ||| ((1 : Int32) <<< (l3 &&& 31))) (l3 + 1) q2.2 r h
      rw [if_neg c3] at h
      refine ev_if_t (t := 40) zo_105_31 rfl (zcm_ne c3) ?_
      refine ev_iinc (v := 1) zo_105_40 rfl (by decide) (zz_set rfl (by decide) (Nat.le_of_ble_eq_true rfl)) rfl ?_
      show zzEv _ _ _ [.ref 0, .ref l1, .int l2, .int (l3 + 1)] _ _ _
      refine ev_goto (t := 4) zo_105_43 rfl ?_
      exact ih l1 l2 (l3 + 1) q2.2 r h
    rw [if_neg c1] at h
    refine ev_cmp_t (t := 46) zo_105_12 rfl (zcm_ge c1) ?_
    refine ev_iload_n zo_105_46 rfl rfl rfl ?_
    obtain rfl := Option.some.inj h
    exact ev_retI zo_105_47 zr_105
def F_X6_textsTold (x1 : Nat) (J : zzJ) : Option (Int32 × zzJ) := F_X6_textsTold_4 4096 x1 (0 : Int32) (0 : Int32) J
set_option maxRecDepth 100000 in
set_option maxHeartbeats 2000000 in
theorem G_X6_textsTold {d : Nat} (hd : 5 ≤ d) (x1 : Nat) (J : zzJ) (r : Int32 × zzJ) (h : F_X6_textsTold x1 J = some r) : zzEv d 105 0 [.ref 0, .ref x1, zzU, zzU] [] (zK J) (some (.int r.1), zK r.2) := by
  unfold F_X6_textsTold at h
  refine ev_iconst (x := 0) zo_105_0 (by decide) rfl ?_
  refine ev_istore_n zo_105_1 rfl (zz_set rfl (by decide) (Nat.le_of_ble_eq_true rfl)) rfl ?_
  show zzEv _ _ _ [.ref 0, .ref x1, .int (0 : Int32), zzU] _ _ _
  refine ev_iconst (x := 0) zo_105_2 (by decide) rfl ?_
  refine ev_istore_n zo_105_3 rfl (zz_set rfl (by decide) (Nat.le_of_ble_eq_true rfl)) rfl ?_
  show zzEv _ _ _ [.ref 0, .ref x1, .int (0 : Int32), .int (0 : Int32)] _ _ _
  exact G_X6_textsTold_4 hd 4096 x1 (0 : Int32) (0 : Int32) J r h
/-! X6_milesTold -/
def F_X6_milesTold_4 : Nat → Nat → Int32 → Int32 → zzJ → Option (Int32 × zzJ)
  | 0, _, _, _, _ => none
  | n + 1, l1, l2, l3, J => (if (99 : Int32) < l3 then some (l2, J) else (Option.bind (F_X0_otherwise 14 l1 (wI J 14 1 l3)) fun q2 => (if q2.1 = (0 : Int32) then F_X6_milesTold_4 n l1 (l2 + 1) (l3 + 1) q2.2 else F_X6_milesTold_4 n l1 l2 (l3 + 1) q2.2)))
set_option maxRecDepth 100000 in
set_option maxHeartbeats 2000000 in
theorem G_X6_milesTold_4 {d : Nat} (hd : 5 ≤ d) : ∀ (n : Nat) (l1 : Nat) (l2 : Int32) (l3 : Int32) (J : zzJ) (r : Int32 × zzJ), F_X6_milesTold_4 n l1 l2 l3 J = some r → zzEv d 106 4 [.ref 0, .ref l1, .int l2, .int l3] [] (zK J) (some (.int r.1), zK r.2) := by
  intro n
  induction n with
  | zero => intro l1 l2 l3 J r h; simp [F_X6_milesTold_4] at h
  | succ n ih =>
    intro l1 l2 l3 J r h
    rw [F_X6_milesTold_4] at h
    refine ev_iload_n zo_106_4 rfl rfl rfl ?_
    refine ev_bipush (x := 99) zo_106_5 (by decide) rfl ?_
    by_cases c1 : (99 : Int32) < l3
    · rw [if_pos c1] at h
      refine ev_cmp_t (t := 38) zo_106_7 rfl (zcm_gt c1) ?_
      refine ev_iload_n zo_106_38 rfl rfl rfl ?_
      obtain rfl := Option.some.inj h
      exact ev_retI zo_106_39 zr_106
    rw [if_neg c1] at h
    refine ev_cmp_f (t := 38) zo_106_7 rfl (zcm_ngt c1) rfl ?_
    refine ev_aload_n zo_106_10 rfl rfl rfl rfl ?_
    refine ev_getR zo_106_11 zf_106_32 (by decide) rfl rfl rfl rfl ?_
    refine ev_iload_n zo_106_14 rfl rfl rfl ?_
    refine ev_putI zo_106_15 zf_106_101 (by decide) rfl rfl rfl rfl ?_
    refine ev_aload_n zo_106_18 rfl rfl rfl rfl ?_
    refine ev_getR zo_106_19 zf_106_32 (by decide) rfl rfl rfl rfl ?_
    refine ev_aload_n zo_106_22 rfl rfl rfl rfl ?_
    obtain ⟨q2, hq2, h⟩ := zz_bd h
    refine ev_cV (as := [.ref l1]) (lsn := [.ref 14, .ref l1, zzU, zzU]) (by omega) zo_106_23 zl_106_255 (by rw [zm_28]; rfl) (by rw [zm_28]; exact rfl) (by rw [zm_28]; decide) (by unfold zzIn; rw [zm_28]; rfl) (by rw [zm_28]; exact Nat.le_of_ble_eq_true rfl) (Nat.le_of_ble_eq_true rfl) (G_X0_otherwise (by omega) 14 l1 (wI J 14 1 l3) q2 hq2) rfl ?_
    show zzEv _ _ _ _ [.int q2.1] _ _
    by_cases c3 : q2.1 = (0 : Int32)
    · rw [if_pos c3] at h
      refine ev_if_f (t := 32) zo_106_26 rfl (zcm_nne c3) rfl ?_
      refine ev_iinc (v := 1) zo_106_29 rfl (by decide) (zz_set rfl (by decide) (Nat.le_of_ble_eq_true rfl)) rfl ?_
      show zzEv _ _ _ [.ref 0, .ref l1, .int (l2 + 1), .int l3] _ _ _
      refine ev_iinc (v := 1) zo_106_32 rfl (by decide) (zz_set rfl (by decide) (Nat.le_of_ble_eq_true rfl)) rfl ?_
      show zzEv _ _ _ [.ref 0, .ref l1, .int (l2 + 1), .int (l3 + 1)] _ _ _
      refine ev_goto (t := 4) zo_106_35 rfl ?_
      exact ih l1 (l2 + 1) (l3 + 1) q2.2 r h
    rw [if_neg c3] at h
    refine ev_if_t (t := 32) zo_106_26 rfl (zcm_ne c3) ?_
    refine ev_iinc (v := 1) zo_106_32 rfl (by decide) (zz_set rfl (by decide) (Nat.le_of_ble_eq_true rfl)) rfl ?_
    show zzEv _ _ _ [.ref 0, .ref l1, .int l2, .int (l3 + 1)] _ _ _
    refine ev_goto (t := 4) zo_106_35 rfl ?_
    exact ih l1 l2 (l3 + 1) q2.2 r h
def F_X6_milesTold (x1 : Nat) (J : zzJ) : Option (Int32 × zzJ) := F_X6_milesTold_4 4096 x1 (0 : Int32) (0 : Int32) J
set_option maxRecDepth 100000 in
set_option maxHeartbeats 2000000 in
theorem G_X6_milesTold {d : Nat} (hd : 5 ≤ d) (x1 : Nat) (J : zzJ) (r : Int32 × zzJ) (h : F_X6_milesTold x1 J = some r) : zzEv d 106 0 [.ref 0, .ref x1, zzU, zzU] [] (zK J) (some (.int r.1), zK r.2) := by
  unfold F_X6_milesTold at h
  refine ev_iconst (x := 0) zo_106_0 (by decide) rfl ?_
  refine ev_istore_n zo_106_1 rfl (zz_set rfl (by decide) (Nat.le_of_ble_eq_true rfl)) rfl ?_
  show zzEv _ _ _ [.ref 0, .ref x1, .int (0 : Int32), zzU] _ _ _
  refine ev_iconst (x := 0) zo_106_2 (by decide) rfl ?_
  refine ev_istore_n zo_106_3 rfl (zz_set rfl (by decide) (Nat.le_of_ble_eq_true rfl)) rfl ?_
  show zzEv _ _ _ [.ref 0, .ref x1, .int (0 : Int32), .int (0 : Int32)] _ _ _
  exact G_X6_milesTold_4 hd 4096 x1 (0 : Int32) (0 : Int32) J r h
/-! X6_leastMileTold -/
def F_X6_leastMileTold_2 : Nat → Nat → Int32 → zzJ → Option (Int32 × zzJ)
  | 0, _, _, _ => none
  | n + 1, l1, l2, J => (if (99 : Int32) < l2 then some ((-1 : Int32), J) else (Option.bind (F_X0_otherwise 14 l1 (wI J 14 1 l2)) fun q2 => (if q2.1 = (0 : Int32) then some (l2, q2.2) else F_X6_leastMileTold_2 n l1 (l2 + 1) q2.2)))
set_option maxRecDepth 100000 in
set_option maxHeartbeats 2000000 in
theorem G_X6_leastMileTold_2 {d : Nat} (hd : 5 ≤ d) : ∀ (n : Nat) (l1 : Nat) (l2 : Int32) (J : zzJ) (r : Int32 × zzJ), F_X6_leastMileTold_2 n l1 l2 J = some r → zzEv d 107 2 [.ref 0, .ref l1, .int l2] [] (zK J) (some (.int r.1), zK r.2) := by
  intro n
  induction n with
  | zero => intro l1 l2 J r h; simp [F_X6_leastMileTold_2] at h
  | succ n ih =>
    intro l1 l2 J r h
    rw [F_X6_leastMileTold_2] at h
    refine ev_iload_n zo_107_2 rfl rfl rfl ?_
    refine ev_bipush (x := 99) zo_107_3 (by decide) rfl ?_
    by_cases c1 : (99 : Int32) < l2
    · rw [if_pos c1] at h
      refine ev_cmp_t (t := 35) zo_107_5 rfl (zcm_gt c1) ?_
      refine ev_iconst (x := (-1)) zo_107_35 (by decide) rfl ?_
      obtain rfl := Option.some.inj h
      exact ev_retI zo_107_36 zr_107
    rw [if_neg c1] at h
    refine ev_cmp_f (t := 35) zo_107_5 rfl (zcm_ngt c1) rfl ?_
    refine ev_aload_n zo_107_8 rfl rfl rfl rfl ?_
    refine ev_getR zo_107_9 zf_107_32 (by decide) rfl rfl rfl rfl ?_
    refine ev_iload_n zo_107_12 rfl rfl rfl ?_
    refine ev_putI zo_107_13 zf_107_101 (by decide) rfl rfl rfl rfl ?_
    refine ev_aload_n zo_107_16 rfl rfl rfl rfl ?_
    refine ev_getR zo_107_17 zf_107_32 (by decide) rfl rfl rfl rfl ?_
    refine ev_aload_n zo_107_20 rfl rfl rfl rfl ?_
    obtain ⟨q2, hq2, h⟩ := zz_bd h
    refine ev_cV (as := [.ref l1]) (lsn := [.ref 14, .ref l1, zzU, zzU]) (by omega) zo_107_21 zl_107_255 (by rw [zm_28]; rfl) (by rw [zm_28]; exact rfl) (by rw [zm_28]; decide) (by unfold zzIn; rw [zm_28]; rfl) (by rw [zm_28]; exact Nat.le_of_ble_eq_true rfl) (Nat.le_of_ble_eq_true rfl) (G_X0_otherwise (by omega) 14 l1 (wI J 14 1 l2) q2 hq2) rfl ?_
    show zzEv _ _ _ _ [.int q2.1] _ _
    by_cases c3 : q2.1 = (0 : Int32)
    · rw [if_pos c3] at h
      refine ev_if_f (t := 29) zo_107_24 rfl (zcm_nne c3) rfl ?_
      refine ev_iload_n zo_107_27 rfl rfl rfl ?_
      obtain rfl := Option.some.inj h
      exact ev_retI zo_107_28 zr_107
    rw [if_neg c3] at h
    refine ev_if_t (t := 29) zo_107_24 rfl (zcm_ne c3) ?_
    refine ev_iinc (v := 1) zo_107_29 rfl (by decide) (zz_set rfl (by decide) (Nat.le_of_ble_eq_true rfl)) rfl ?_
    show zzEv _ _ _ [.ref 0, .ref l1, .int (l2 + 1)] _ _ _
    refine ev_goto (t := 2) zo_107_32 rfl ?_
    exact ih l1 (l2 + 1) q2.2 r h
def F_X6_leastMileTold (x1 : Nat) (J : zzJ) : Option (Int32 × zzJ) := F_X6_leastMileTold_2 4096 x1 (0 : Int32) J
set_option maxRecDepth 100000 in
set_option maxHeartbeats 2000000 in
theorem G_X6_leastMileTold {d : Nat} (hd : 5 ≤ d) (x1 : Nat) (J : zzJ) (r : Int32 × zzJ) (h : F_X6_leastMileTold x1 J = some r) : zzEv d 107 0 [.ref 0, .ref x1, zzU] [] (zK J) (some (.int r.1), zK r.2) := by
  unfold F_X6_leastMileTold at h
  refine ev_iconst (x := 0) zo_107_0 (by decide) rfl ?_
  refine ev_istore_n zo_107_1 rfl (zz_set rfl (by decide) (Nat.le_of_ble_eq_true rfl)) rfl ?_
  show zzEv _ _ _ [.ref 0, .ref x1, .int (0 : Int32)] _ _ _
  exact G_X6_leastMileTold_2 hd 4096 x1 (0 : Int32) J r h
/-! X6_itemsTold -/
def F_X6_itemsTold_6 : Nat → Nat → Nat → Int32 → Int32 → Int32 → Int32 → zzJ → Option (Int32 × zzJ)
  | 0, _, _, _, _, _, _, _ => none
  | n + 1, l1, l2, l3, l4, l5, l6, J => (if l6 < l4 then (Option.bind (F_X6_put l2 l3 l6 J) fun q2 => (Option.bind (F_X0_otherwise 14 l1 q2) fun q3 => (if q3.1 = (0 : Int32) then F_X6_itemsTold_6 n l1 l2 l3 l4 (l5 ||| ((1 : Int32) <<< (l6 &&& 31))) (l6 + 1) q3.2 else F_X6_itemsTold_6 n l1 l2 l3 l4 l5 (l6 + 1) q3.2))) else some (l5, J))
set_option maxRecDepth 100000 in
set_option maxHeartbeats 2000000 in
theorem G_X6_itemsTold_6 {d : Nat} (hd : 5 ≤ d) : ∀ (n : Nat) (l1 : Nat) (l2 : Nat) (l3 : Int32) (l4 : Int32) (l5 : Int32) (l6 : Int32) (J : zzJ) (r : Int32 × zzJ), F_X6_itemsTold_6 n l1 l2 l3 l4 l5 l6 J = some r → zzEv d 108 6 [.ref 0, .ref l1, .ref l2, .int l3, .int l4, .int l5, .int l6] [] (zK J) (some (.int r.1), zK r.2) := by
  intro n
  induction n with
  | zero => intro l1 l2 l3 l4 l5 l6 J r h; simp [F_X6_itemsTold_6] at h
  | succ n ih =>
    intro l1 l2 l3 l4 l5 l6 J r h
    rw [F_X6_itemsTold_6] at h
    refine ev_iload zo_108_6 rfl rfl ?_
    refine ev_iload zo_108_8 rfl rfl ?_
    by_cases c1 : l6 < l4
    · rw [if_pos c1] at h
      refine ev_cmp_f (t := 46) zo_108_10 rfl (zcm_nge c1) rfl ?_
      refine ev_aload_n zo_108_13 rfl rfl rfl rfl ?_
      refine ev_iload_n zo_108_14 rfl rfl rfl ?_
      refine ev_iload zo_108_15 rfl rfl ?_
      obtain ⟨q2, hq2, h⟩ := zz_bd h
      refine ev_cS (as := [.int l6, .int l3, .ref l2]) (lsn := [.ref l2, .int l3, .int l6]) (by omega) zo_108_17 zl_108_268 (by decide) (by rw [zm_126]; rfl) (by unfold zzIn; rw [zm_126]; rfl) (by rw [zm_126]; exact Nat.le_of_ble_eq_true rfl) (Nat.le_of_ble_eq_true rfl) (G_X6_put (by omega) l2 l3 l6 J q2 hq2) rfl ?_
      show zzEv _ _ _ _ [] _ _
      refine ev_aload_n zo_108_20 rfl rfl rfl rfl ?_
      refine ev_getR zo_108_21 zf_108_32 (by decide) rfl rfl rfl rfl ?_
      refine ev_aload_n zo_108_24 rfl rfl rfl rfl ?_
      obtain ⟨q3, hq3, h⟩ := zz_bd h
      refine ev_cV (as := [.ref l1]) (lsn := [.ref 14, .ref l1, zzU, zzU]) (by omega) zo_108_25 zl_108_255 (by rw [zm_28]; rfl) (by rw [zm_28]; exact rfl) (by rw [zm_28]; decide) (by unfold zzIn; rw [zm_28]; rfl) (by rw [zm_28]; exact Nat.le_of_ble_eq_true rfl) (Nat.le_of_ble_eq_true rfl) (G_X0_otherwise (by omega) 14 l1 q2 q3 hq3) rfl ?_
      show zzEv _ _ _ _ [.int q3.1] _ _
      by_cases c4 : q3.1 = (0 : Int32)
      · rw [if_pos c4] at h
        refine ev_if_f (t := 40) zo_108_28 rfl (zcm_nne c4) rfl ?_
        refine ev_iload zo_108_31 rfl rfl ?_
        refine ev_iconst (x := 1) zo_108_33 (by decide) rfl ?_
        refine ev_iload zo_108_34 rfl rfl ?_
        refine ev_ishl zo_108_36 rfl ?_
        refine ev_ior zo_108_37 rfl ?_
        refine ev_istore zo_108_38 (zz_set rfl (by decide) (Nat.le_of_ble_eq_true rfl)) rfl ?_
        show zzEv _ _ _ [.ref 0, .ref l1, .ref l2, .int l3, .int l4, .int (l5 ||| ((1 : Int32) <<< (l6 &&& 31))), .int l6] _ _ _
        refine ev_iinc (v := 1) zo_108_40 rfl (by decide) (zz_set rfl (by decide) (Nat.le_of_ble_eq_true rfl)) rfl ?_
        show zzEv _ _ _ [.ref 0, .ref l1, .ref l2, .int l3, .int l4, .int (l5 ||| ((1 : Int32) <<< (l6 &&& 31))), .int (l6 + 1)] _ _ _
        refine ev_goto (t := 6) zo_108_43 rfl ?_
        exact ih l1 l2 l3 l4 (l5 ||| ((1 : Int32) <<< (l6 &&& 31))) (l6 + 1) q3.2 r h
      rw [if_neg c4] at h
      refine ev_if_t (t := 40) zo_108_28 rfl (zcm_ne c4) ?_
      refine ev_iinc (v := 1) zo_108_40 rfl (by decide) (zz_set rfl (by decide) (Nat.le_of_ble_eq_true rfl)) rfl ?_
      show zzEv _ _ _ [.ref 0, .ref l1, .ref l2, .int l3, .int l4, .int l5, .int (l6 + 1)] _ _ _
      refine ev_goto (t := 6) zo_108_43 rfl ?_
      exact ih l1 l2 l3 l4 l5 (l6 + 1) q3.2 r h
    rw [if_neg c1] at h
    refine ev_cmp_t (t := 46) zo_108_10 rfl (zcm_ge c1) ?_
    refine ev_iload zo_108_46 rfl rfl ?_
    obtain rfl := Option.some.inj h
    exact ev_retI zo_108_48 zr_108
def F_X6_itemsTold (x1 : Nat) (x2 : Nat) (x3 : Int32) (x4 : Int32) (J : zzJ) : Option (Int32 × zzJ) := F_X6_itemsTold_6 4096 x1 x2 x3 x4 (0 : Int32) (0 : Int32) J
set_option maxRecDepth 100000 in
set_option maxHeartbeats 2000000 in
theorem G_X6_itemsTold {d : Nat} (hd : 5 ≤ d) (x1 : Nat) (x2 : Nat) (x3 : Int32) (x4 : Int32) (J : zzJ) (r : Int32 × zzJ) (h : F_X6_itemsTold x1 x2 x3 x4 J = some r) : zzEv d 108 0 [.ref 0, .ref x1, .ref x2, .int x3, .int x4, zzU, zzU] [] (zK J) (some (.int r.1), zK r.2) := by
  unfold F_X6_itemsTold at h
  refine ev_iconst (x := 0) zo_108_0 (by decide) rfl ?_
  refine ev_istore zo_108_1 (zz_set rfl (by decide) (Nat.le_of_ble_eq_true rfl)) rfl ?_
  show zzEv _ _ _ [.ref 0, .ref x1, .ref x2, .int x3, .int x4, .int (0 : Int32), zzU] _ _ _
  refine ev_iconst (x := 0) zo_108_3 (by decide) rfl ?_
  refine ev_istore zo_108_4 (zz_set rfl (by decide) (Nat.le_of_ble_eq_true rfl)) rfl ?_
  show zzEv _ _ _ [.ref 0, .ref x1, .ref x2, .int x3, .int x4, .int (0 : Int32), .int (0 : Int32)] _ _ _
  exact G_X6_itemsTold_6 hd 4096 x1 x2 x3 x4 (0 : Int32) (0 : Int32) J r h
