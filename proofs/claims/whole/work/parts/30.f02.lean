/-! the methods as functions, and that they are (written by wip/whole/gen2.py) -/
/-! X0_noise -/
def F_X0_noise (x0 : Nat) (x1 : Int32) (J : zzJ) : Option (Int32 × zzJ) := (if zKd x0 = 0 then (Option.bind (F_X0_sits x0 x1 J) fun q2 => (if q2.1 = (0 : Int32) then some ((0 : Int32), q2.2) else (Option.bind (F_X0_telling x0 (0 : Int32) x1 (q2.2.2 x0 1) q2.2) fun q4 => (Option.bind (F_X0_seatOf x0 x1 q4.2) fun q5 => (Option.bind (F_X0_kindOf x0 x1 q5.2) fun q6 => (Option.bind (F_X0_numberOf x0 x1 q6.2) fun q7 => (Option.bind (F_X0_isWatched x0 x1 q7.2) fun q8 => (Option.bind (F_X6_noiseBy q6.1 q4.1 (q5.1 / (4 : Int32)) q7.1 q8.1 q8.2) fun q9 => (Option.bind (F_X6_bounded q9.1 (0 : Int32) (999 : Int32) q9.2) fun q10 => some (q10.1, q10.2)))))))))) else none)
set_option maxRecDepth 100000 in
set_option maxHeartbeats 2000000 in
theorem G_X0_noise {d : Nat} (hd : 3 ≤ d) (x0 : Nat) (x1 : Int32) (J : zzJ) (r : Int32 × zzJ) (h : F_X0_noise x0 x1 J = some r) : zzEv d 21 0 [.ref x0, .int x1, zzU, zzU] [] (zK J) (some (.int r.1), zK r.2) := by
  unfold F_X0_noise at h
  refine ev_aload_n zo_21_0 rfl rfl rfl rfl ?_
  refine ev_iload_n zo_21_1 rfl rfl rfl ?_
  obtain ⟨c1, h⟩ := zz_chk h
  obtain ⟨q2, hq2, h⟩ := zz_bd h
  refine ev_cV (as := [.int x1]) (lsn := [.ref x0, .int x1]) (by omega) zo_21_2 zl_21_77 (by rw [zm_8]; rfl) (by rw [zm_8]; exact c1) (by rw [zm_8]; decide) (by unfold zzIn; rw [zm_8]; rfl) (by rw [zm_8]; exact Nat.le_of_ble_eq_true rfl) (Nat.le_of_ble_eq_true rfl) (G_X0_sits (by omega) x0 x1 J q2 hq2) rfl ?_
  show zzEv _ _ _ _ [.int q2.1] _ _
  by_cases c3 : q2.1 = (0 : Int32)
  · rw [if_pos c3] at h
    refine ev_if_f (t := 10) zo_21_5 rfl (zcm_nne c3) rfl ?_
    refine ev_iconst (x := 0) zo_21_8 (by decide) rfl ?_
    obtain rfl := Option.some.inj h
    exact ev_retI zo_21_9 zr_21
  rw [if_neg c3] at h
  refine ev_if_t (t := 10) zo_21_5 rfl (zcm_ne c3) ?_
  refine ev_aload_n zo_21_10 rfl rfl rfl rfl ?_
  refine ev_iconst (x := 0) zo_21_11 (by decide) rfl ?_
  refine ev_iload_n zo_21_12 rfl rfl rfl ?_
  refine ev_aload_n zo_21_13 rfl rfl rfl rfl ?_
  refine ev_getI zo_21_14 zf_21_15 (by decide) (Or.inl rfl) c1 rfl ?_
  obtain ⟨q4, hq4, h⟩ := zz_bd h
  refine ev_cV (as := [.int (q2.2.2 x0 1), .int x1, .int (0 : Int32)]) (lsn := [.ref x0, .int (0 : Int32), .int x1, .int (q2.2.2 x0 1), zzU, zzU]) (by omega) zo_21_17 zl_21_116 (by rw [zm_20]; rfl) (by rw [zm_20]; exact c1) (by rw [zm_20]; decide) (by unfold zzIn; rw [zm_20]; rfl) (by rw [zm_20]; exact Nat.le_of_ble_eq_true rfl) (Nat.le_of_ble_eq_true rfl) (G_X0_telling (by omega) x0 (0 : Int32) x1 (q2.2.2 x0 1) q2.2 q4 hq4) rfl ?_
  show zzEv _ _ _ _ [.int q4.1] _ _
  refine ev_istore_n zo_21_20 rfl (zz_set rfl (by decide) (Nat.le_of_ble_eq_true rfl)) rfl ?_
  show zzEv _ _ _ [.ref x0, .int x1, .int q4.1, zzU] _ _ _
  refine ev_aload_n zo_21_21 rfl rfl rfl rfl ?_
  refine ev_iload_n zo_21_22 rfl rfl rfl ?_
  obtain ⟨q5, hq5, h⟩ := zz_bd h
  refine ev_cV (as := [.int x1]) (lsn := [.ref x0, .int x1]) (by omega) zo_21_23 zl_21_63 (by rw [zm_7]; rfl) (by rw [zm_7]; exact c1) (by rw [zm_7]; decide) (by unfold zzIn; rw [zm_7]; rfl) (by rw [zm_7]; exact Nat.le_of_ble_eq_true rfl) (Nat.le_of_ble_eq_true rfl) (G_X0_seatOf (by omega) x0 x1 q4.2 q5 hq5) rfl ?_
  show zzEv _ _ _ _ [.int q5.1] _ _
  refine ev_iconst (x := 4) zo_21_26 (by decide) rfl ?_
  refine ev_idiv zo_21_27 (by decide) rfl ?_
  refine ev_istore_n zo_21_28 rfl (zz_set rfl (by decide) (Nat.le_of_ble_eq_true rfl)) rfl ?_
  show zzEv _ _ _ [.ref x0, .int x1, .int q4.1, .int (q5.1 / (4 : Int32))] _ _ _
  refine ev_aload_n zo_21_29 rfl rfl rfl rfl ?_
  refine ev_iload_n zo_21_30 rfl rfl rfl ?_
  obtain ⟨q6, hq6, h⟩ := zz_bd h
  refine ev_cV (as := [.int x1]) (lsn := [.ref x0, .int x1]) (by omega) zo_21_31 zl_21_119 (by rw [zm_4]; rfl) (by rw [zm_4]; exact c1) (by rw [zm_4]; decide) (by unfold zzIn; rw [zm_4]; rfl) (by rw [zm_4]; exact Nat.le_of_ble_eq_true rfl) (Nat.le_of_ble_eq_true rfl) (G_X0_kindOf (by omega) x0 x1 q5.2 q6 hq6) rfl ?_
  show zzEv _ _ _ _ [.int q6.1] _ _
  refine ev_iload_n zo_21_34 rfl rfl rfl ?_
  refine ev_iload_n zo_21_35 rfl rfl rfl ?_
  refine ev_aload_n zo_21_36 rfl rfl rfl rfl ?_
  refine ev_iload_n zo_21_37 rfl rfl rfl ?_
  obtain ⟨q7, hq7, h⟩ := zz_bd h
  refine ev_cV (as := [.int x1]) (lsn := [.ref x0, .int x1]) (by omega) zo_21_38 zl_21_93 (by rw [zm_5]; rfl) (by rw [zm_5]; exact c1) (by rw [zm_5]; decide) (by unfold zzIn; rw [zm_5]; rfl) (by rw [zm_5]; exact Nat.le_of_ble_eq_true rfl) (Nat.le_of_ble_eq_true rfl) (G_X0_numberOf (by omega) x0 x1 q6.2 q7 hq7) rfl ?_
  show zzEv _ _ _ _ [.int q7.1, .int (q5.1 / (4 : Int32)), .int q4.1, .int q6.1] _ _
  refine ev_aload_n zo_21_41 rfl rfl rfl rfl ?_
  refine ev_iload_n zo_21_42 rfl rfl rfl ?_
  obtain ⟨q8, hq8, h⟩ := zz_bd h
  refine ev_cV (as := [.int x1]) (lsn := [.ref x0, .int x1, zzU]) (by omega) zo_21_43 zl_21_122 (by rw [zm_18]; rfl) (by rw [zm_18]; exact c1) (by rw [zm_18]; decide) (by unfold zzIn; rw [zm_18]; rfl) (by rw [zm_18]; exact Nat.le_of_ble_eq_true rfl) (Nat.le_of_ble_eq_true rfl) (G_X0_isWatched (by omega) x0 x1 q7.2 q8 hq8) rfl ?_
  show zzEv _ _ _ _ [.int q8.1, .int q7.1, .int (q5.1 / (4 : Int32)), .int q4.1, .int q6.1] _ _
  obtain ⟨q9, hq9, h⟩ := zz_bd h
  refine ev_cS (as := [.int q8.1, .int q7.1, .int (q5.1 / (4 : Int32)), .int q4.1, .int q6.1]) (lsn := [.int q6.1, .int q4.1, .int (q5.1 / (4 : Int32)), .int q7.1, .int q8.1, zzU, zzU]) (by omega) zo_21_46 zl_21_125 (by decide) (by rw [zm_132]; rfl) (by unfold zzIn; rw [zm_132]; rfl) (by rw [zm_132]; exact Nat.le_of_ble_eq_true rfl) (Nat.le_of_ble_eq_true rfl) (G_X6_noiseBy (by omega) q6.1 q4.1 (q5.1 / (4 : Int32)) q7.1 q8.1 q8.2 q9 hq9) rfl ?_
  show zzEv _ _ _ _ [.int q9.1] _ _
  refine ev_iconst (x := 0) zo_21_49 (by decide) rfl ?_
  refine ev_sipush (x := 999) zo_21_50 (by decide) rfl ?_
  obtain ⟨q10, hq10, h⟩ := zz_bd h
  refine ev_cS (as := [.int (999 : Int32), .int (0 : Int32), .int q9.1]) (lsn := [.int q9.1, .int (0 : Int32), .int (999 : Int32)]) (by omega) zo_21_53 zl_21_112 (by decide) (by rw [zm_135]; rfl) (by unfold zzIn; rw [zm_135]; rfl) (by rw [zm_135]; exact Nat.le_of_ble_eq_true rfl) (Nat.le_of_ble_eq_true rfl) (G_X6_bounded (by omega) q9.1 (0 : Int32) (999 : Int32) q9.2 q10 hq10) rfl ?_
  show zzEv _ _ _ _ [.int q10.1] _ _
  obtain rfl := Option.some.inj h
  exact ev_retI zo_21_56 zr_21
/-! X6_queasyBy -/
def F_X6_queasyBy (x0 : Int32) (x1 : Int32) (x2 : Int32) (J : zzJ) : Option (Int32 × zzJ) := (if x0 = 2 then some ((((2 : Int32) * x1) + x2), J) else (if x0 = 3 then (if x2 = (5 : Int32) then some ((0 : Int32), J) else some (x1, J)) else (if x0 = 4 then some (((((2 : Int32) * x1) + x2) / (2 : Int32)), J) else (if x0 = 5 then some ((0 : Int32), J) else some (x1, J)))))
set_option maxRecDepth 100000 in
set_option maxHeartbeats 2000000 in
theorem G_X6_queasyBy {d : Nat} (hd : 0 ≤ d) (x0 : Int32) (x1 : Int32) (x2 : Int32) (J : zzJ) (r : Int32 × zzJ) (h : F_X6_queasyBy x0 x1 x2 J = some r) : zzEv d 133 0 [.int x0, .int x1, .int x2, zzU] [] (zK J) (some (.int r.1), zK r.2) := by
  unfold F_X6_queasyBy at h
  refine ev_iconst (x := 2) zo_133_0 (by decide) rfl ?_
  refine ev_iload_n zo_133_1 rfl rfl rfl ?_
  refine ev_imul zo_133_2 rfl ?_
  refine ev_iload_n zo_133_3 rfl rfl rfl ?_
  refine ev_iadd zo_133_4 rfl ?_
  refine ev_istore_n zo_133_5 rfl (zz_set rfl (by decide) (Nat.le_of_ble_eq_true rfl)) rfl ?_
  show zzEv _ _ _ [.int x0, .int x1, .int x2, .int (((2 : Int32) * x1) + x2)] _ _ _
  refine ev_iload_n zo_133_6 rfl rfl rfl ?_
  by_cases s1 : x0 = 2
  · rw [if_pos s1] at h
    refine ev_tableIn (t := 36) zo_133_7 s1 rfl ?_
    refine ev_iload_n zo_133_36 rfl rfl rfl ?_
    obtain rfl := Option.some.inj h
    exact ev_retI zo_133_37 zr_133
  rw [if_neg s1] at h
  by_cases s2 : x0 = 3
  · rw [if_pos s2] at h
    refine ev_tableIn (t := 38) zo_133_7 s2 rfl ?_
    refine ev_iload_n zo_133_38 rfl rfl rfl ?_
    refine ev_iconst (x := 5) zo_133_39 (by decide) rfl ?_
    by_cases c3 : x2 = (5 : Int32)
    · rw [if_pos c3] at h
      refine ev_cmp_f (t := 47) zo_133_40 rfl (zcm_nne c3) rfl ?_
      refine ev_iconst (x := 0) zo_133_43 (by decide) rfl ?_
      refine ev_goto (t := 48) zo_133_44 rfl ?_
      obtain rfl := Option.some.inj h
      exact ev_retI zo_133_48 zr_133
    rw [if_neg c3] at h
    refine ev_cmp_t (t := 47) zo_133_40 rfl (zcm_ne c3) ?_
    refine ev_iload_n zo_133_47 rfl rfl rfl ?_
    obtain rfl := Option.some.inj h
    exact ev_retI zo_133_48 zr_133
  rw [if_neg s2] at h
  by_cases s4 : x0 = 4
  · rw [if_pos s4] at h
    refine ev_tableIn (t := 49) zo_133_7 s4 rfl ?_
    refine ev_iload_n zo_133_49 rfl rfl rfl ?_
    refine ev_iconst (x := 2) zo_133_50 (by decide) rfl ?_
    refine ev_idiv zo_133_51 (by decide) rfl ?_
    obtain rfl := Option.some.inj h
    exact ev_retI zo_133_52 zr_133
  rw [if_neg s4] at h
  by_cases s5 : x0 = 5
  · rw [if_pos s5] at h
    refine ev_tableIn (t := 53) zo_133_7 s5 rfl ?_
    refine ev_iconst (x := 0) zo_133_53 (by decide) rfl ?_
    obtain rfl := Option.some.inj h
    exact ev_retI zo_133_54 zr_133
  rw [if_neg s5] at h
  refine ev_tableOut (t := 55) zo_133_7 (sw_out 4 rfl fun k hk => ?_) rfl ?_
  · rcases (show k = 0 ∨ k = 1 ∨ k = 2 ∨ k = 3 by omega) with rfl | rfl | rfl | rfl
    · exact sw_ne s1 (by decide)
    · exact sw_ne s2 (by decide)
    · exact sw_ne s4 (by decide)
    · exact sw_ne s5 (by decide)
  refine ev_iload_n zo_133_55 rfl rfl rfl ?_
  obtain rfl := Option.some.inj h
  exact ev_retI zo_133_56 zr_133
/-! X0_queasy -/
def F_X0_queasy (x0 : Nat) (x1 : Int32) (x2 : Int32) (J : zzJ) : Option (Int32 × zzJ) := (if zKd x0 = 0 then (Option.bind (F_X0_sits x0 x1 J) fun q2 => (if q2.1 = (0 : Int32) then some ((0 : Int32), q2.2) else (Option.bind (F_X0_telling x0 (1 : Int32) x1 x2 q2.2) fun q4 => (Option.bind (F_X0_kindOf x0 x1 q4.2) fun q5 => (Option.bind (F_X0_seatOf x0 x1 q5.2) fun q6 => (Option.bind (F_X6_queasyBy q5.1 q4.1 (q6.1 / (4 : Int32)) q6.2) fun q7 => (Option.bind (F_X6_bounded q7.1 (0 : Int32) (99 : Int32) q7.2) fun q8 => some (q8.1, q8.2)))))))) else none)
set_option maxRecDepth 100000 in
set_option maxHeartbeats 2000000 in
theorem G_X0_queasy {d : Nat} (hd : 3 ≤ d) (x0 : Nat) (x1 : Int32) (x2 : Int32) (J : zzJ) (r : Int32 × zzJ) (h : F_X0_queasy x0 x1 x2 J = some r) : zzEv d 22 0 [.ref x0, .int x1, .int x2, zzU] [] (zK J) (some (.int r.1), zK r.2) := by
  unfold F_X0_queasy at h
  refine ev_aload_n zo_22_0 rfl rfl rfl rfl ?_
  refine ev_iload_n zo_22_1 rfl rfl rfl ?_
  obtain ⟨c1, h⟩ := zz_chk h
  obtain ⟨q2, hq2, h⟩ := zz_bd h
  refine ev_cV (as := [.int x1]) (lsn := [.ref x0, .int x1]) (by omega) zo_22_2 zl_22_77 (by rw [zm_8]; rfl) (by rw [zm_8]; exact c1) (by rw [zm_8]; decide) (by unfold zzIn; rw [zm_8]; rfl) (by rw [zm_8]; exact Nat.le_of_ble_eq_true rfl) (Nat.le_of_ble_eq_true rfl) (G_X0_sits (by omega) x0 x1 J q2 hq2) rfl ?_
  show zzEv _ _ _ _ [.int q2.1] _ _
  by_cases c3 : q2.1 = (0 : Int32)
  · rw [if_pos c3] at h
    refine ev_if_f (t := 10) zo_22_5 rfl (zcm_nne c3) rfl ?_
    refine ev_iconst (x := 0) zo_22_8 (by decide) rfl ?_
    obtain rfl := Option.some.inj h
    exact ev_retI zo_22_9 zr_22
  rw [if_neg c3] at h
  refine ev_if_t (t := 10) zo_22_5 rfl (zcm_ne c3) ?_
  refine ev_aload_n zo_22_10 rfl rfl rfl rfl ?_
  refine ev_iconst (x := 1) zo_22_11 (by decide) rfl ?_
  refine ev_iload_n zo_22_12 rfl rfl rfl ?_
  refine ev_iload_n zo_22_13 rfl rfl rfl ?_
  obtain ⟨q4, hq4, h⟩ := zz_bd h
  refine ev_cV (as := [.int x2, .int x1, .int (1 : Int32)]) (lsn := [.ref x0, .int (1 : Int32), .int x1, .int x2, zzU, zzU]) (by omega) zo_22_14 zl_22_116 (by rw [zm_20]; rfl) (by rw [zm_20]; exact c1) (by rw [zm_20]; decide) (by unfold zzIn; rw [zm_20]; rfl) (by rw [zm_20]; exact Nat.le_of_ble_eq_true rfl) (Nat.le_of_ble_eq_true rfl) (G_X0_telling (by omega) x0 (1 : Int32) x1 x2 q2.2 q4 hq4) rfl ?_
  show zzEv _ _ _ _ [.int q4.1] _ _
  refine ev_istore_n zo_22_17 rfl (zz_set rfl (by decide) (Nat.le_of_ble_eq_true rfl)) rfl ?_
  show zzEv _ _ _ [.ref x0, .int x1, .int x2, .int q4.1] _ _ _
  refine ev_aload_n zo_22_18 rfl rfl rfl rfl ?_
  refine ev_iload_n zo_22_19 rfl rfl rfl ?_
  obtain ⟨q5, hq5, h⟩ := zz_bd h
  refine ev_cV (as := [.int x1]) (lsn := [.ref x0, .int x1]) (by omega) zo_22_20 zl_22_119 (by rw [zm_4]; rfl) (by rw [zm_4]; exact c1) (by rw [zm_4]; decide) (by unfold zzIn; rw [zm_4]; rfl) (by rw [zm_4]; exact Nat.le_of_ble_eq_true rfl) (Nat.le_of_ble_eq_true rfl) (G_X0_kindOf (by omega) x0 x1 q4.2 q5 hq5) rfl ?_
  show zzEv _ _ _ _ [.int q5.1] _ _
  refine ev_iload_n zo_22_23 rfl rfl rfl ?_
  refine ev_aload_n zo_22_24 rfl rfl rfl rfl ?_
  refine ev_iload_n zo_22_25 rfl rfl rfl ?_
  obtain ⟨q6, hq6, h⟩ := zz_bd h
  refine ev_cV (as := [.int x1]) (lsn := [.ref x0, .int x1]) (by omega) zo_22_26 zl_22_63 (by rw [zm_7]; rfl) (by rw [zm_7]; exact c1) (by rw [zm_7]; decide) (by unfold zzIn; rw [zm_7]; rfl) (by rw [zm_7]; exact Nat.le_of_ble_eq_true rfl) (Nat.le_of_ble_eq_true rfl) (G_X0_seatOf (by omega) x0 x1 q5.2 q6 hq6) rfl ?_
  show zzEv _ _ _ _ [.int q6.1, .int q4.1, .int q5.1] _ _
  refine ev_iconst (x := 4) zo_22_29 (by decide) rfl ?_
  refine ev_idiv zo_22_30 (by decide) rfl ?_
  obtain ⟨q7, hq7, h⟩ := zz_bd h
  refine ev_cS (as := [.int (q6.1 / (4 : Int32)), .int q4.1, .int q5.1]) (lsn := [.int q5.1, .int q4.1, .int (q6.1 / (4 : Int32)), zzU]) (by omega) zo_22_31 zl_22_129 (by decide) (by rw [zm_133]; rfl) (by unfold zzIn; rw [zm_133]; rfl) (by rw [zm_133]; exact Nat.le_of_ble_eq_true rfl) (Nat.le_of_ble_eq_true rfl) (G_X6_queasyBy (by omega) q5.1 q4.1 (q6.1 / (4 : Int32)) q6.2 q7 hq7) rfl ?_
  show zzEv _ _ _ _ [.int q7.1] _ _
  refine ev_iconst (x := 0) zo_22_34 (by decide) rfl ?_
  refine ev_bipush (x := 99) zo_22_35 (by decide) rfl ?_
  obtain ⟨q8, hq8, h⟩ := zz_bd h
  refine ev_cS (as := [.int (99 : Int32), .int (0 : Int32), .int q7.1]) (lsn := [.int q7.1, .int (0 : Int32), .int (99 : Int32)]) (by omega) zo_22_37 zl_22_112 (by decide) (by rw [zm_135]; rfl) (by unfold zzIn; rw [zm_135]; rfl) (by rw [zm_135]; exact Nat.le_of_ble_eq_true rfl) (Nat.le_of_ble_eq_true rfl) (G_X6_bounded (by omega) q7.1 (0 : Int32) (99 : Int32) q7.2 q8 hq8) rfl ?_
  show zzEv _ _ _ _ [.int q8.1] _ _
  obtain rfl := Option.some.inj h
  exact ev_retI zo_22_40 zr_22
/-! X6_gladBy -/
def F_X6_gladBy_28 (l0 : Int32) (l1 : Int32) (l2 : Int32) (l4 : Int32) (t0 : Int32) (J : zzJ) : Option (Int32 × zzJ) := (if l0 = 1 then some (t0, J) else (if l0 = 2 then some ((l4 - l2), J) else (if l0 = 3 then some (((2 : Int32) * t0), J) else (if l0 = 4 then some ((3 : Int32), J) else (if l0 = 5 then some ((-l1), J) else some (l4, J))))))
set_option maxRecDepth 100000 in
set_option maxHeartbeats 2000000 in
theorem G_X6_gladBy_28 {d : Nat} (hd : 0 ≤ d) : ∀ (l0 : Int32) (l1 : Int32) (l2 : Int32) (l4 : Int32) (t0 : Int32) (J : zzJ) (r : Int32 × zzJ), F_X6_gladBy_28 l0 l1 l2 l4 t0 J = some r → ∀ (lv3 : Value) (hlv3 : lv3.category = 1), zzEv d 134 28 [.int l0, .int l1, .int l2, lv3, .int l4, zzU] [.int t0] (zK J) (some (.int r.1), zK r.2) := by
  intro l0 l1 l2 l4 t0 J r h lv3 hlv3
  unfold F_X6_gladBy_28 at h
  refine ev_istore zo_134_28 (zz_set rfl (by decide) (Nat.le_of_ble_eq_true rfl)) rfl ?_
  show zzEv _ _ _ [.int l0, .int l1, .int l2, lv3, .int l4, .int t0] _ _ _
  refine ev_iload_n zo_134_30 rfl rfl rfl ?_
  by_cases s1 : l0 = 1
  · rw [if_pos s1] at h
    refine ev_tableIn (t := 64) zo_134_31 s1 rfl ?_
    refine ev_iload zo_134_64 rfl rfl ?_
    obtain rfl := Option.some.inj h
    exact ev_retI zo_134_66 zr_134
  rw [if_neg s1] at h
  by_cases s2 : l0 = 2
  · rw [if_pos s2] at h
    refine ev_tableIn (t := 67) zo_134_31 s2 rfl ?_
    refine ev_iload zo_134_67 rfl rfl ?_
    refine ev_iload_n zo_134_69 rfl rfl rfl ?_
    refine ev_isub zo_134_70 rfl ?_
    obtain rfl := Option.some.inj h
    exact ev_retI zo_134_71 zr_134
  rw [if_neg s2] at h
  by_cases s3 : l0 = 3
  · rw [if_pos s3] at h
    refine ev_tableIn (t := 72) zo_134_31 s3 rfl ?_
    refine ev_iconst (x := 2) zo_134_72 (by decide) rfl ?_
    refine ev_iload zo_134_73 rfl rfl ?_
    refine ev_imul zo_134_75 rfl ?_
    obtain rfl := Option.some.inj h
    exact ev_retI zo_134_76 zr_134
  rw [if_neg s3] at h
  by_cases s4 : l0 = 4
  · rw [if_pos s4] at h
    refine ev_tableIn (t := 77) zo_134_31 s4 rfl ?_
    refine ev_iconst (x := 3) zo_134_77 (by decide) rfl ?_
    obtain rfl := Option.some.inj h
    exact ev_retI zo_134_78 zr_134
  rw [if_neg s4] at h
  by_cases s5 : l0 = 5
  · rw [if_pos s5] at h
    refine ev_tableIn (t := 79) zo_134_31 s5 rfl ?_
    refine ev_iload_n zo_134_79 rfl rfl rfl ?_
    refine ev_ineg zo_134_80 rfl ?_
    obtain rfl := Option.some.inj h
    exact ev_retI zo_134_81 zr_134
  rw [if_neg s5] at h
  refine ev_tableOut (t := 82) zo_134_31 (sw_out 5 rfl fun k hk => ?_) rfl ?_
  · rcases (show k = 0 ∨ k = 1 ∨ k = 2 ∨ k = 3 ∨ k = 4 by omega) with rfl | rfl | rfl | rfl | rfl
    · exact sw_ne s1 (by decide)
    · exact sw_ne s2 (by decide)
    · exact sw_ne s3 (by decide)
    · exact sw_ne s4 (by decide)
    · exact sw_ne s5 (by decide)
  refine ev_iload zo_134_82 rfl rfl ?_
  obtain rfl := Option.some.inj h
  exact ev_retI zo_134_84 zr_134
def F_X6_gladBy_12 (l0 : Int32) (l1 : Int32) (l2 : Int32) (t0 : Int32) (J : zzJ) : Option (Int32 × zzJ) := (if l2 = (5 : Int32) then F_X6_gladBy_28 l0 l1 l2 t0 (t0 + (5 : Int32)) J else F_X6_gladBy_28 l0 l1 l2 t0 t0 J)
set_option maxRecDepth 100000 in
set_option maxHeartbeats 2000000 in
theorem G_X6_gladBy_12 {d : Nat} (hd : 0 ≤ d) : ∀ (l0 : Int32) (l1 : Int32) (l2 : Int32) (t0 : Int32) (J : zzJ) (r : Int32 × zzJ), F_X6_gladBy_12 l0 l1 l2 t0 J = some r → ∀ (lv3 : Value) (hlv3 : lv3.category = 1), zzEv d 134 12 [.int l0, .int l1, .int l2, lv3, zzU, zzU] [.int t0] (zK J) (some (.int r.1), zK r.2) := by
  intro l0 l1 l2 t0 J r h lv3 hlv3
  unfold F_X6_gladBy_12 at h
  refine ev_istore zo_134_12 (zz_set (zz_lg (j := 3) rfl hlv3) (by decide) (Nat.le_of_ble_eq_true rfl)) rfl ?_
  show zzEv _ _ _ [.int l0, .int l1, .int l2, lv3, .int t0, zzU] _ _ _
  refine ev_iload_n zo_134_14 rfl rfl rfl ?_
  refine ev_iconst (x := 5) zo_134_15 (by decide) rfl ?_
  by_cases c6 : l2 = (5 : Int32)
  · rw [if_pos c6] at h
    refine ev_cmp_f (t := 26) zo_134_16 rfl (zcm_nne c6) rfl ?_
    refine ev_iload zo_134_19 rfl rfl ?_
    refine ev_iconst (x := 5) zo_134_21 (by decide) rfl ?_
    refine ev_iadd zo_134_22 rfl ?_
    refine ev_goto (t := 28) zo_134_23 rfl ?_
    exact G_X6_gladBy_28 hd l0 l1 l2 t0 (t0 + (5 : Int32)) J r h (lv3) hlv3
  rw [if_neg c6] at h
  refine ev_cmp_t (t := 26) zo_134_16 rfl (zcm_ne c6) ?_
  refine ev_iload zo_134_26 rfl rfl ?_
  exact G_X6_gladBy_28 hd l0 l1 l2 t0 t0 J r h (lv3) hlv3
def F_X6_gladBy (x0 : Int32) (x1 : Int32) (x2 : Int32) (x3 : Int32) (J : zzJ) : Option (Int32 × zzJ) := (if x3 = (0 : Int32) then F_X6_gladBy_12 x0 x1 x2 x1 J else F_X6_gladBy_12 x0 x1 x2 (x1 + (10 : Int32)) J)
set_option maxRecDepth 100000 in
set_option maxHeartbeats 2000000 in
theorem G_X6_gladBy {d : Nat} (hd : 0 ≤ d) (x0 : Int32) (x1 : Int32) (x2 : Int32) (x3 : Int32) (J : zzJ) (r : Int32 × zzJ) (h : F_X6_gladBy x0 x1 x2 x3 J = some r) : zzEv d 134 0 [.int x0, .int x1, .int x2, .int x3, zzU, zzU] [] (zK J) (some (.int r.1), zK r.2) := by
  unfold F_X6_gladBy at h
  refine ev_iload_n zo_134_0 rfl rfl rfl ?_
  by_cases c7 : x3 = (0 : Int32)
  · rw [if_pos c7] at h
    refine ev_if_t (t := 11) zo_134_1 rfl (zcm_eq c7) ?_
    refine ev_iload_n zo_134_11 rfl rfl rfl ?_
    exact G_X6_gladBy_12 hd x0 x1 x2 x1 J r h (.int x3) rfl
  rw [if_neg c7] at h
  refine ev_if_f (t := 11) zo_134_1 rfl (zcm_neq c7) rfl ?_
  refine ev_iload_n zo_134_4 rfl rfl rfl ?_
  refine ev_bipush (x := 10) zo_134_5 (by decide) rfl ?_
  refine ev_iadd zo_134_7 rfl ?_
  refine ev_goto (t := 12) zo_134_8 rfl ?_
  exact G_X6_gladBy_12 hd x0 x1 x2 (x1 + (10 : Int32)) J r h (.int x3) rfl
/-! X0_glad -/
def F_X0_glad (x0 : Nat) (x1 : Int32) (J : zzJ) : Option (Int32 × zzJ) := (if zKd x0 = 0 then (Option.bind (F_X0_sits x0 x1 J) fun q2 => (if q2.1 = (0 : Int32) then some ((0 : Int32), q2.2) else (Option.bind (F_X0_telling x0 (2 : Int32) x1 (q2.2.2 x0 1) q2.2) fun q4 => (Option.bind (F_X0_kindOf x0 x1 q4.2) fun q5 => (Option.bind (F_X0_seatOf x0 x1 q5.2) fun q6 => (Option.bind (F_X0_friendOf x0 x1 q6.2) fun q7 => (Option.bind (F_X0_areBeside x0 x1 q7.1 q7.2) fun q8 => (Option.bind (F_X6_gladBy q5.1 q4.1 (q6.1 / (4 : Int32)) q8.1 q8.2) fun q9 => some (q9.1, q9.2))))))))) else none)
set_option maxRecDepth 100000 in
set_option maxHeartbeats 2000000 in
theorem G_X0_glad {d : Nat} (hd : 3 ≤ d) (x0 : Nat) (x1 : Int32) (J : zzJ) (r : Int32 × zzJ) (h : F_X0_glad x0 x1 J = some r) : zzEv d 23 0 [.ref x0, .int x1, zzU] [] (zK J) (some (.int r.1), zK r.2) := by
  unfold F_X0_glad at h
  refine ev_aload_n zo_23_0 rfl rfl rfl rfl ?_
  refine ev_iload_n zo_23_1 rfl rfl rfl ?_
  obtain ⟨c1, h⟩ := zz_chk h
  obtain ⟨q2, hq2, h⟩ := zz_bd h
  refine ev_cV (as := [.int x1]) (lsn := [.ref x0, .int x1]) (by omega) zo_23_2 zl_23_77 (by rw [zm_8]; rfl) (by rw [zm_8]; exact c1) (by rw [zm_8]; decide) (by unfold zzIn; rw [zm_8]; rfl) (by rw [zm_8]; exact Nat.le_of_ble_eq_true rfl) (Nat.le_of_ble_eq_true rfl) (G_X0_sits (by omega) x0 x1 J q2 hq2) rfl ?_
  show zzEv _ _ _ _ [.int q2.1] _ _
  by_cases c3 : q2.1 = (0 : Int32)
  · rw [if_pos c3] at h
    refine ev_if_f (t := 10) zo_23_5 rfl (zcm_nne c3) rfl ?_
    refine ev_iconst (x := 0) zo_23_8 (by decide) rfl ?_
    obtain rfl := Option.some.inj h
    exact ev_retI zo_23_9 zr_23
  rw [if_neg c3] at h
  refine ev_if_t (t := 10) zo_23_5 rfl (zcm_ne c3) ?_
  refine ev_aload_n zo_23_10 rfl rfl rfl rfl ?_
  refine ev_iconst (x := 2) zo_23_11 (by decide) rfl ?_
  refine ev_iload_n zo_23_12 rfl rfl rfl ?_
  refine ev_aload_n zo_23_13 rfl rfl rfl rfl ?_
  refine ev_getI zo_23_14 zf_23_15 (by decide) (Or.inl rfl) c1 rfl ?_
  obtain ⟨q4, hq4, h⟩ := zz_bd h
  refine ev_cV (as := [.int (q2.2.2 x0 1), .int x1, .int (2 : Int32)]) (lsn := [.ref x0, .int (2 : Int32), .int x1, .int (q2.2.2 x0 1), zzU, zzU]) (by omega) zo_23_17 zl_23_116 (by rw [zm_20]; rfl) (by rw [zm_20]; exact c1) (by rw [zm_20]; decide) (by unfold zzIn; rw [zm_20]; rfl) (by rw [zm_20]; exact Nat.le_of_ble_eq_true rfl) (Nat.le_of_ble_eq_true rfl) (G_X0_telling (by omega) x0 (2 : Int32) x1 (q2.2.2 x0 1) q2.2 q4 hq4) rfl ?_
  show zzEv _ _ _ _ [.int q4.1] _ _
  refine ev_istore_n zo_23_20 rfl (zz_set rfl (by decide) (Nat.le_of_ble_eq_true rfl)) rfl ?_
  show zzEv _ _ _ [.ref x0, .int x1, .int q4.1] _ _ _
  refine ev_aload_n zo_23_21 rfl rfl rfl rfl ?_
  refine ev_iload_n zo_23_22 rfl rfl rfl ?_
  obtain ⟨q5, hq5, h⟩ := zz_bd h
  refine ev_cV (as := [.int x1]) (lsn := [.ref x0, .int x1]) (by omega) zo_23_23 zl_23_119 (by rw [zm_4]; rfl) (by rw [zm_4]; exact c1) (by rw [zm_4]; decide) (by unfold zzIn; rw [zm_4]; rfl) (by rw [zm_4]; exact Nat.le_of_ble_eq_true rfl) (Nat.le_of_ble_eq_true rfl) (G_X0_kindOf (by omega) x0 x1 q4.2 q5 hq5) rfl ?_
  show zzEv _ _ _ _ [.int q5.1] _ _
  refine ev_iload_n zo_23_26 rfl rfl rfl ?_
  refine ev_aload_n zo_23_27 rfl rfl rfl rfl ?_
  refine ev_iload_n zo_23_28 rfl rfl rfl ?_
  obtain ⟨q6, hq6, h⟩ := zz_bd h
  refine ev_cV (as := [.int x1]) (lsn := [.ref x0, .int x1]) (by omega) zo_23_29 zl_23_63 (by rw [zm_7]; rfl) (by rw [zm_7]; exact c1) (by rw [zm_7]; decide) (by unfold zzIn; rw [zm_7]; rfl) (by rw [zm_7]; exact Nat.le_of_ble_eq_true rfl) (Nat.le_of_ble_eq_true rfl) (G_X0_seatOf (by omega) x0 x1 q5.2 q6 hq6) rfl ?_
  show zzEv _ _ _ _ [.int q6.1, .int q4.1, .int q5.1] _ _
  refine ev_iconst (x := 4) zo_23_32 (by decide) rfl ?_
  refine ev_idiv zo_23_33 (by decide) rfl ?_
  refine ev_aload_n zo_23_34 rfl rfl rfl rfl ?_
  refine ev_iload_n zo_23_35 rfl rfl rfl ?_
  refine ev_aload_n zo_23_36 rfl rfl rfl rfl ?_
  refine ev_iload_n zo_23_37 rfl rfl rfl ?_
  obtain ⟨q7, hq7, h⟩ := zz_bd h
  refine ev_cV (as := [.int x1]) (lsn := [.ref x0, .int x1]) (by omega) zo_23_38 zl_23_99 (by rw [zm_6]; rfl) (by rw [zm_6]; exact c1) (by rw [zm_6]; decide) (by unfold zzIn; rw [zm_6]; rfl) (by rw [zm_6]; exact Nat.le_of_ble_eq_true rfl) (Nat.le_of_ble_eq_true rfl) (G_X0_friendOf (by omega) x0 x1 q6.2 q7 hq7) rfl ?_
  show zzEv _ _ _ _ [.int q7.1, .int x1, .ref x0, .int (q6.1 / (4 : Int32)), .int q4.1, .int q5.1] _ _
  obtain ⟨q8, hq8, h⟩ := zz_bd h
  refine ev_cV (as := [.int q7.1, .int x1]) (lsn := [.ref x0, .int x1, .int q7.1, zzU, zzU]) (by omega) zo_23_41 zl_23_102 (by rw [zm_16]; rfl) (by rw [zm_16]; exact c1) (by rw [zm_16]; decide) (by unfold zzIn; rw [zm_16]; rfl) (by rw [zm_16]; exact Nat.le_of_ble_eq_true rfl) (Nat.le_of_ble_eq_true rfl) (G_X0_areBeside (by omega) x0 x1 q7.1 q7.2 q8 hq8) rfl ?_
  show zzEv _ _ _ _ [.int q8.1, .int (q6.1 / (4 : Int32)), .int q4.1, .int q5.1] _ _
  obtain ⟨q9, hq9, h⟩ := zz_bd h
  refine ev_cS (as := [.int q8.1, .int (q6.1 / (4 : Int32)), .int q4.1, .int q5.1]) (lsn := [.int q5.1, .int q4.1, .int (q6.1 / (4 : Int32)), .int q8.1, zzU, zzU]) (by omega) zo_23_44 zl_23_132 (by decide) (by rw [zm_134]; rfl) (by unfold zzIn; rw [zm_134]; rfl) (by rw [zm_134]; exact Nat.le_of_ble_eq_true rfl) (Nat.le_of_ble_eq_true rfl) (G_X6_gladBy (by omega) q5.1 q4.1 (q6.1 / (4 : Int32)) q8.1 q8.2 q9 hq9) rfl ?_
  show zzEv _ _ _ _ [.int q9.1] _ _
  obtain rfl := Option.some.inj h
  exact ev_retI zo_23_47 zr_23
/-! X0_din -/
def F_X0_din_4 : Nat → Nat → Int32 → Int32 → zzJ → Option (Int32 × zzJ)
  | 0, _, _, _, _ => none
  | n + 1, l0, l1, l2, J => (if zKd l0 = 0 then (if l2 < (J.2 l0 4) then (Option.bind (F_X0_noise l0 l2 J) fun q3 => F_X0_din_4 n l0 (l1 + q3.1) (l2 + 1) q3.2) else some (l1, J)) else none)
set_option maxRecDepth 100000 in
set_option maxHeartbeats 2000000 in
theorem G_X0_din_4 {d : Nat} (hd : 4 ≤ d) : ∀ (n : Nat) (l0 : Nat) (l1 : Int32) (l2 : Int32) (J : zzJ) (r : Int32 × zzJ), F_X0_din_4 n l0 l1 l2 J = some r → zzEv d 24 4 [.ref l0, .int l1, .int l2] [] (zK J) (some (.int r.1), zK r.2) := by
  intro n
  induction n with
  | zero => intro l0 l1 l2 J r h; simp [F_X0_din_4] at h
  | succ n ih =>
    intro l0 l1 l2 J r h
    rw [F_X0_din_4] at h
    refine ev_iload_n zo_24_4 rfl rfl rfl ?_
    refine ev_aload_n zo_24_5 rfl rfl rfl rfl ?_
    obtain ⟨c1, h⟩ := zz_chk h
    refine ev_getI zo_24_6 zf_24_25 (by decide) (Or.inl rfl) c1 rfl ?_
    by_cases c2 : l2 < (J.2 l0 4)
    · rw [if_pos c2] at h
      refine ev_cmp_f (t := 26) zo_24_9 rfl (zcm_nge c2) rfl ?_
      refine ev_iload_n zo_24_12 rfl rfl rfl ?_
      refine ev_aload_n zo_24_13 rfl rfl rfl rfl ?_
      refine ev_iload_n zo_24_14 rfl rfl rfl ?_
      obtain ⟨q3, hq3, h⟩ := zz_bd h
      refine ev_cV (as := [.int l2]) (lsn := [.ref l0, .int l2, zzU, zzU]) (by omega) zo_24_15 zl_24_136 (by rw [zm_21]; rfl) (by rw [zm_21]; exact c1) (by rw [zm_21]; decide) (by unfold zzIn; rw [zm_21]; rfl) (by rw [zm_21]; exact Nat.le_of_ble_eq_true rfl) (Nat.le_of_ble_eq_true rfl) (G_X0_noise (by omega) l0 l2 J q3 hq3) rfl ?_
      show zzEv _ _ _ _ [.int q3.1, .int l1] _ _
      refine ev_iadd zo_24_18 rfl ?_
      refine ev_istore_n zo_24_19 rfl (zz_set rfl (by decide) (Nat.le_of_ble_eq_true rfl)) rfl ?_
      show zzEv _ _ _ [.ref l0, .int (l1 + q3.1), .int l2] _ _ _
      refine ev_iinc (v := 1) zo_24_20 rfl (by decide) (zz_set rfl (by decide) (Nat.le_of_ble_eq_true rfl)) rfl ?_
      show zzEv _ _ _ [.ref l0, .int (l1 + q3.1), .int (l2 + 1)] _ _ _
      refine ev_goto (t := 4) zo_24_23 rfl ?_
      exact ih l0 (l1 + q3.1) (l2 + 1) q3.2 r h
    rw [if_neg c2] at h
    refine ev_cmp_t (t := 26) zo_24_9 rfl (zcm_ge c2) ?_
    refine ev_iload_n zo_24_26 rfl rfl rfl ?_
    obtain rfl := Option.some.inj h
    exact ev_retI zo_24_27 zr_24
def F_X0_din (x0 : Nat) (J : zzJ) : Option (Int32 × zzJ) := F_X0_din_4 4096 x0 (0 : Int32) (0 : Int32) J
set_option maxRecDepth 100000 in
set_option maxHeartbeats 2000000 in
theorem G_X0_din {d : Nat} (hd : 4 ≤ d) (x0 : Nat) (J : zzJ) (r : Int32 × zzJ) (h : F_X0_din x0 J = some r) : zzEv d 24 0 [.ref x0, zzU, zzU] [] (zK J) (some (.int r.1), zK r.2) := by
  unfold F_X0_din at h
  refine ev_iconst (x := 0) zo_24_0 (by decide) rfl ?_
  refine ev_istore_n zo_24_1 rfl (zz_set rfl (by decide) (Nat.le_of_ble_eq_true rfl)) rfl ?_
  show zzEv _ _ _ [.ref x0, .int (0 : Int32), zzU] _ _ _
  refine ev_iconst (x := 0) zo_24_2 (by decide) rfl ?_
  refine ev_istore_n zo_24_3 rfl (zz_set rfl (by decide) (Nat.le_of_ble_eq_true rfl)) rfl ?_
  show zzEv _ _ _ [.ref x0, .int (0 : Int32), .int (0 : Int32)] _ _ _
  exact G_X0_din_4 hd 4096 x0 (0 : Int32) (0 : Int32) J r h
/-! X0_joy -/
def F_X0_joy_4 : Nat → Nat → Int32 → Int32 → zzJ → Option (Int32 × zzJ)
  | 0, _, _, _, _ => none
  | n + 1, l0, l1, l2, J => (if zKd l0 = 0 then (if l2 < (J.2 l0 4) then (Option.bind (F_X0_glad l0 l2 J) fun q3 => F_X0_joy_4 n l0 (l1 + q3.1) (l2 + 1) q3.2) else some (l1, J)) else none)
set_option maxRecDepth 100000 in
set_option maxHeartbeats 2000000 in
theorem G_X0_joy_4 {d : Nat} (hd : 4 ≤ d) : ∀ (n : Nat) (l0 : Nat) (l1 : Int32) (l2 : Int32) (J : zzJ) (r : Int32 × zzJ), F_X0_joy_4 n l0 l1 l2 J = some r → zzEv d 25 4 [.ref l0, .int l1, .int l2] [] (zK J) (some (.int r.1), zK r.2) := by
  intro n
  induction n with
  | zero => intro l0 l1 l2 J r h; simp [F_X0_joy_4] at h
  | succ n ih =>
    intro l0 l1 l2 J r h
    rw [F_X0_joy_4] at h
    refine ev_iload_n zo_25_4 rfl rfl rfl ?_
    refine ev_aload_n zo_25_5 rfl rfl rfl rfl ?_
    obtain ⟨c1, h⟩ := zz_chk h
    refine ev_getI zo_25_6 zf_25_25 (by decide) (Or.inl rfl) c1 rfl ?_
    by_cases c2 : l2 < (J.2 l0 4)
    · rw [if_pos c2] at h
      refine ev_cmp_f (t := 26) zo_25_9 rfl (zcm_nge c2) rfl ?_
      refine ev_iload_n zo_25_12 rfl rfl rfl ?_
      refine ev_aload_n zo_25_13 rfl rfl rfl rfl ?_
      refine ev_iload_n zo_25_14 rfl rfl rfl ?_
      obtain ⟨q3, hq3, h⟩ := zz_bd h
      refine ev_cV (as := [.int l2]) (lsn := [.ref l0, .int l2, zzU]) (by omega) zo_25_15 zl_25_139 (by rw [zm_23]; rfl) (by rw [zm_23]; exact c1) (by rw [zm_23]; decide) (by unfold zzIn; rw [zm_23]; rfl) (by rw [zm_23]; exact Nat.le_of_ble_eq_true rfl) (Nat.le_of_ble_eq_true rfl) (G_X0_glad (by omega) l0 l2 J q3 hq3) rfl ?_
      show zzEv _ _ _ _ [.int q3.1, .int l1] _ _
      refine ev_iadd zo_25_18 rfl ?_
      refine ev_istore_n zo_25_19 rfl (zz_set rfl (by decide) (Nat.le_of_ble_eq_true rfl)) rfl ?_
      show zzEv _ _ _ [.ref l0, .int (l1 + q3.1), .int l2] _ _ _
      refine ev_iinc (v := 1) zo_25_20 rfl (by decide) (zz_set rfl (by decide) (Nat.le_of_ble_eq_true rfl)) rfl ?_
      show zzEv _ _ _ [.ref l0, .int (l1 + q3.1), .int (l2 + 1)] _ _ _
      refine ev_goto (t := 4) zo_25_23 rfl ?_
      exact ih l0 (l1 + q3.1) (l2 + 1) q3.2 r h
    rw [if_neg c2] at h
    refine ev_cmp_t (t := 26) zo_25_9 rfl (zcm_ge c2) ?_
    refine ev_iload_n zo_25_26 rfl rfl rfl ?_
    obtain rfl := Option.some.inj h
    exact ev_retI zo_25_27 zr_25
def F_X0_joy (x0 : Nat) (J : zzJ) : Option (Int32 × zzJ) := F_X0_joy_4 4096 x0 (0 : Int32) (0 : Int32) J
set_option maxRecDepth 100000 in
set_option maxHeartbeats 2000000 in
theorem G_X0_joy {d : Nat} (hd : 4 ≤ d) (x0 : Nat) (J : zzJ) (r : Int32 × zzJ) (h : F_X0_joy x0 J = some r) : zzEv d 25 0 [.ref x0, zzU, zzU] [] (zK J) (some (.int r.1), zK r.2) := by
  unfold F_X0_joy at h
  refine ev_iconst (x := 0) zo_25_0 (by decide) rfl ?_
  refine ev_istore_n zo_25_1 rfl (zz_set rfl (by decide) (Nat.le_of_ble_eq_true rfl)) rfl ?_
  show zzEv _ _ _ [.ref x0, .int (0 : Int32), zzU] _ _ _
  refine ev_iconst (x := 0) zo_25_2 (by decide) rfl ?_
  refine ev_istore_n zo_25_3 rfl (zz_set rfl (by decide) (Nat.le_of_ble_eq_true rfl)) rfl ?_
  show zzEv _ _ _ [.ref x0, .int (0 : Int32), .int (0 : Int32)] _ _ _
  exact G_X0_joy_4 hd 4096 x0 (0 : Int32) (0 : Int32) J r h
/-! X0_sitting -/
def F_X0_sitting_4 : Nat → Nat → Int32 → Int32 → zzJ → Option (Int32 × zzJ)
  | 0, _, _, _, _ => none
  | n + 1, l0, l1, l2, J => (if zKd l0 = 0 then (if l2 < (J.2 l0 4) then (Option.bind (F_X0_sits l0 l2 J) fun q3 => (if q3.1 = (0 : Int32) then F_X0_sitting_4 n l0 (l1 + (0 : Int32)) (l2 + 1) q3.2 else F_X0_sitting_4 n l0 (l1 + (1 : Int32)) (l2 + 1) q3.2)) else some (l1, J)) else none)
set_option maxRecDepth 100000 in
set_option maxHeartbeats 2000000 in
theorem G_X0_sitting_4 {d : Nat} (hd : 2 ≤ d) : ∀ (n : Nat) (l0 : Nat) (l1 : Int32) (l2 : Int32) (J : zzJ) (r : Int32 × zzJ), F_X0_sitting_4 n l0 l1 l2 J = some r → zzEv d 26 4 [.ref l0, .int l1, .int l2] [] (zK J) (some (.int r.1), zK r.2) := by
  intro n
  induction n with
  | zero => intro l0 l1 l2 J r h; simp [F_X0_sitting_4] at h
  | succ n ih =>
    intro l0 l1 l2 J r h
    rw [F_X0_sitting_4] at h
    refine ev_iload_n zo_26_4 rfl rfl rfl ?_
    refine ev_aload_n zo_26_5 rfl rfl rfl rfl ?_
    obtain ⟨c1, h⟩ := zz_chk h
    refine ev_getI zo_26_6 zf_26_25 (by decide) (Or.inl rfl) c1 rfl ?_
    by_cases c2 : l2 < (J.2 l0 4)
    · rw [if_pos c2] at h
      refine ev_cmp_f (t := 34) zo_26_9 rfl (zcm_nge c2) rfl ?_
      refine ev_iload_n zo_26_12 rfl rfl rfl ?_
      refine ev_aload_n zo_26_13 rfl rfl rfl rfl ?_
      refine ev_iload_n zo_26_14 rfl rfl rfl ?_
      obtain ⟨q3, hq3, h⟩ := zz_bd h
      refine ev_cV (as := [.int l2]) (lsn := [.ref l0, .int l2]) (by omega) zo_26_15 zl_26_77 (by rw [zm_8]; rfl) (by rw [zm_8]; exact c1) (by rw [zm_8]; decide) (by unfold zzIn; rw [zm_8]; rfl) (by rw [zm_8]; exact Nat.le_of_ble_eq_true rfl) (Nat.le_of_ble_eq_true rfl) (G_X0_sits (by omega) l0 l2 J q3 hq3) rfl ?_
      show zzEv _ _ _ _ [.int q3.1, .int l1] _ _
      by_cases c4 : q3.1 = (0 : Int32)
      · rw [if_pos c4] at h
        refine ev_if_t (t := 25) zo_26_18 rfl (zcm_eq c4) ?_
        refine ev_iconst (x := 0) zo_26_25 (by decide) rfl ?_
        refine ev_iadd zo_26_26 rfl ?_
        refine ev_istore_n zo_26_27 rfl (zz_set rfl (by decide) (Nat.le_of_ble_eq_true rfl)) rfl ?_
        show zzEv _ _ _ [.ref l0, .int (l1 + (0 : Int32)), .int l2] _ _ _
        refine ev_iinc (v := 1) zo_26_28 rfl (by decide) (zz_set rfl (by decide) (Nat.le_of_ble_eq_true rfl)) rfl ?_
        show zzEv _ _ _ [.ref l0, .int (l1 + (0 : Int32)), .int (l2 + 1)] _ _ _
        refine ev_goto (t := 4) zo_26_31 rfl ?_
        exact ih l0 (l1 + (0 : Int32)) (l2 + 1) q3.2 r h
      rw [if_neg c4] at h
      refine ev_if_f (t := 25) zo_26_18 rfl (zcm_neq c4) rfl ?_
      refine ev_iconst (x := 1) zo_26_21 (by decide) rfl ?_
      refine ev_goto (t := 26) zo_26_22 rfl ?_
      refine ev_iadd zo_26_26 rfl ?_
      refine ev_istore_n zo_26_27 rfl (zz_set rfl (by decide) (Nat.le_of_ble_eq_true rfl)) rfl ?_
      show zzEv _ _ _ [.ref l0, .int (l1 + (1 : Int32)), .int l2] _ _ _
      refine ev_iinc (v := 1) zo_26_28 rfl (by decide) (zz_set rfl (by decide) (Nat.le_of_ble_eq_true rfl)) rfl ?_
      show zzEv _ _ _ [.ref l0, .int (l1 + (1 : Int32)), .int (l2 + 1)] _ _ _
      refine ev_goto (t := 4) zo_26_31 rfl ?_
      exact ih l0 (l1 + (1 : Int32)) (l2 + 1) q3.2 r h
    rw [if_neg c2] at h
    refine ev_cmp_t (t := 34) zo_26_9 rfl (zcm_ge c2) ?_
    refine ev_iload_n zo_26_34 rfl rfl rfl ?_
    obtain rfl := Option.some.inj h
    exact ev_retI zo_26_35 zr_26
def F_X0_sitting (x0 : Nat) (J : zzJ) : Option (Int32 × zzJ) := F_X0_sitting_4 4096 x0 (0 : Int32) (0 : Int32) J
set_option maxRecDepth 100000 in
set_option maxHeartbeats 2000000 in
theorem G_X0_sitting {d : Nat} (hd : 2 ≤ d) (x0 : Nat) (J : zzJ) (r : Int32 × zzJ) (h : F_X0_sitting x0 J = some r) : zzEv d 26 0 [.ref x0, zzU, zzU] [] (zK J) (some (.int r.1), zK r.2) := by
  unfold F_X0_sitting at h
  refine ev_iconst (x := 0) zo_26_0 (by decide) rfl ?_
  refine ev_istore_n zo_26_1 rfl (zz_set rfl (by decide) (Nat.le_of_ble_eq_true rfl)) rfl ?_
  show zzEv _ _ _ [.ref x0, .int (0 : Int32), zzU] _ _ _
  refine ev_iconst (x := 0) zo_26_2 (by decide) rfl ?_
  refine ev_istore_n zo_26_3 rfl (zz_set rfl (by decide) (Nat.le_of_ble_eq_true rfl)) rfl ?_
  show zzEv _ _ _ [.ref x0, .int (0 : Int32), .int (0 : Int32)] _ _ _
  exact G_X0_sitting_4 hd 4096 x0 (0 : Int32) (0 : Int32) J r h
/-! X0_alone -/
def F_X0_alone_4 : Nat → Nat → Int32 → Int32 → zzJ → Option (Int32 × zzJ)
  | 0, _, _, _, _ => none
  | n + 1, l0, l1, l2, J => (if zKd l0 = 0 then (if l2 < (J.2 l0 4) then (Option.bind (F_X0_sits l0 l2 J) fun q3 => (if q3.1 = (0 : Int32) then F_X0_alone_4 n l0 (l1 + (0 : Int32)) (l2 + 1) q3.2 else (Option.bind (F_X0_neighbours l0 l2 q3.2) fun q5 => (if q5.1 = (0 : Int32) then F_X0_alone_4 n l0 (l1 + (1 : Int32)) (l2 + 1) q5.2 else F_X0_alone_4 n l0 (l1 + (0 : Int32)) (l2 + 1) q5.2)))) else some (l1, J)) else none)
set_option maxRecDepth 100000 in
set_option maxHeartbeats 2000000 in
theorem G_X0_alone_4 {d : Nat} (hd : 2 ≤ d) : ∀ (n : Nat) (l0 : Nat) (l1 : Int32) (l2 : Int32) (J : zzJ) (r : Int32 × zzJ), F_X0_alone_4 n l0 l1 l2 J = some r → zzEv d 27 4 [.ref l0, .int l1, .int l2] [] (zK J) (some (.int r.1), zK r.2) := by
  intro n
  induction n with
  | zero => intro l0 l1 l2 J r h; simp [F_X0_alone_4] at h
  | succ n ih =>
    intro l0 l1 l2 J r h
    rw [F_X0_alone_4] at h
    refine ev_iload_n zo_27_4 rfl rfl rfl ?_
    refine ev_aload_n zo_27_5 rfl rfl rfl rfl ?_
    obtain ⟨c1, h⟩ := zz_chk h
    refine ev_getI zo_27_6 zf_27_25 (by decide) (Or.inl rfl) c1 rfl ?_
    by_cases c2 : l2 < (J.2 l0 4)
    · rw [if_pos c2] at h
      refine ev_cmp_f (t := 42) zo_27_9 rfl (zcm_nge c2) rfl ?_
      refine ev_iload_n zo_27_12 rfl rfl rfl ?_
      refine ev_aload_n zo_27_13 rfl rfl rfl rfl ?_
      refine ev_iload_n zo_27_14 rfl rfl rfl ?_
      obtain ⟨q3, hq3, h⟩ := zz_bd h
      refine ev_cV (as := [.int l2]) (lsn := [.ref l0, .int l2]) (by omega) zo_27_15 zl_27_77 (by rw [zm_8]; rfl) (by rw [zm_8]; exact c1) (by rw [zm_8]; decide) (by unfold zzIn; rw [zm_8]; rfl) (by rw [zm_8]; exact Nat.le_of_ble_eq_true rfl) (Nat.le_of_ble_eq_true rfl) (G_X0_sits (by omega) l0 l2 J q3 hq3) rfl ?_
      show zzEv _ _ _ _ [.int q3.1, .int l1] _ _
      by_cases c4 : q3.1 = (0 : Int32)
      · rw [if_pos c4] at h
        refine ev_if_t (t := 33) zo_27_18 rfl (zcm_eq c4) ?_
        refine ev_iconst (x := 0) zo_27_33 (by decide) rfl ?_
        refine ev_iadd zo_27_34 rfl ?_
        refine ev_istore_n zo_27_35 rfl (zz_set rfl (by decide) (Nat.le_of_ble_eq_true rfl)) rfl ?_
        show zzEv _ _ _ [.ref l0, .int (l1 + (0 : Int32)), .int l2] _ _ _
        refine ev_iinc (v := 1) zo_27_36 rfl (by decide) (zz_set rfl (by decide) (Nat.le_of_ble_eq_true rfl)) rfl ?_
        show zzEv _ _ _ [.ref l0, .int (l1 + (0 : Int32)), .int (l2 + 1)] _ _ _
        refine ev_goto (t := 4) zo_27_39 rfl ?_
        exact ih l0 (l1 + (0 : Int32)) (l2 + 1) q3.2 r h
      rw [if_neg c4] at h
      refine ev_if_f (t := 33) zo_27_18 rfl (zcm_neq c4) rfl ?_
      refine ev_aload_n zo_27_21 rfl rfl rfl rfl ?_
      refine ev_iload_n zo_27_22 rfl rfl rfl ?_
      obtain ⟨q5, hq5, h⟩ := zz_bd h
      refine ev_cV (as := [.int l2]) (lsn := [.ref l0, .int l2, zzU, zzU, zzU]) (by omega) zo_27_23 zl_27_96 (by rw [zm_17]; rfl) (by rw [zm_17]; exact c1) (by rw [zm_17]; decide) (by unfold zzIn; rw [zm_17]; rfl) (by rw [zm_17]; exact Nat.le_of_ble_eq_true rfl) (Nat.le_of_ble_eq_true rfl) (G_X0_neighbours (by omega) l0 l2 q3.2 q5 hq5) rfl ?_
      show zzEv _ _ _ _ [.int q5.1, .int l1] _ _
      by_cases c6 : q5.1 = (0 : Int32)
      · rw [if_pos c6] at h
        refine ev_if_f (t := 33) zo_27_26 rfl (zcm_nne c6) rfl ?_
        refine ev_iconst (x := 1) zo_27_29 (by decide) rfl ?_
        refine ev_goto (t := 34) zo_27_30 rfl ?_
        refine ev_iadd zo_27_34 rfl ?_
        refine ev_istore_n zo_27_35 rfl (zz_set rfl (by decide) (Nat.le_of_ble_eq_true rfl)) rfl ?_
        show zzEv _ _ _ [.ref l0, .int (l1 + (1 : Int32)), .int l2] _ _ _
        refine ev_iinc (v := 1) zo_27_36 rfl (by decide) (zz_set rfl (by decide) (Nat.le_of_ble_eq_true rfl)) rfl ?_
        show zzEv _ _ _ [.ref l0, .int (l1 + (1 : Int32)), .int (l2 + 1)] _ _ _
        refine ev_goto (t := 4) zo_27_39 rfl ?_
        exact ih l0 (l1 + (1 : Int32)) (l2 + 1) q5.2 r h
      rw [if_neg c6] at h
      refine ev_if_t (t := 33) zo_27_26 rfl (zcm_ne c6) ?_
      refine ev_iconst (x := 0) zo_27_33 (by decide) rfl ?_
      refine ev_iadd zo_27_34 rfl ?_
      refine ev_istore_n zo_27_35 rfl (zz_set rfl (by decide) (Nat.le_of_ble_eq_true rfl)) rfl ?_
      show zzEv _ _ _ [.ref l0, .int (l1 + (0 : Int32)), .int l2] _ _ _
      refine ev_iinc (v := 1) zo_27_36 rfl (by decide) (zz_set rfl (by decide) (Nat.le_of_ble_eq_true rfl)) rfl ?_
      show zzEv _ _ _ [.ref l0, .int (l1 + (0 : Int32)), .int (l2 + 1)] _ _ _
      refine ev_goto (t := 4) zo_27_39 rfl ?_
      exact ih l0 (l1 + (0 : Int32)) (l2 + 1) q5.2 r h
    rw [if_neg c2] at h
    refine ev_cmp_t (t := 42) zo_27_9 rfl (zcm_ge c2) ?_
    refine ev_iload_n zo_27_42 rfl rfl rfl ?_
    obtain rfl := Option.some.inj h
    exact ev_retI zo_27_43 zr_27
def F_X0_alone (x0 : Nat) (J : zzJ) : Option (Int32 × zzJ) := F_X0_alone_4 4096 x0 (0 : Int32) (0 : Int32) J
set_option maxRecDepth 100000 in
set_option maxHeartbeats 2000000 in
theorem G_X0_alone {d : Nat} (hd : 2 ≤ d) (x0 : Nat) (J : zzJ) (r : Int32 × zzJ) (h : F_X0_alone x0 J = some r) : zzEv d 27 0 [.ref x0, zzU, zzU] [] (zK J) (some (.int r.1), zK r.2) := by
  unfold F_X0_alone at h
  refine ev_iconst (x := 0) zo_27_0 (by decide) rfl ?_
  refine ev_istore_n zo_27_1 rfl (zz_set rfl (by decide) (Nat.le_of_ble_eq_true rfl)) rfl ?_
  show zzEv _ _ _ [.ref x0, .int (0 : Int32), zzU] _ _ _
  refine ev_iconst (x := 0) zo_27_2 (by decide) rfl ?_
  refine ev_istore_n zo_27_3 rfl (zz_set rfl (by decide) (Nat.le_of_ble_eq_true rfl)) rfl ?_
  show zzEv _ _ _ [.ref x0, .int (0 : Int32), .int (0 : Int32)] _ _ _
  exact G_X0_alone_4 hd 4096 x0 (0 : Int32) (0 : Int32) J r h
/-! X4_item -/
def F_X4_item (x0 : Nat) (x1 : Int32) (J : zzJ) : Option (Int32 × zzJ) := (if zKd x0 = 4 then (Option.bind (zMR x0 2) fun b2 => (Option.bind (F_X6_itemAt b2 x1 J) fun q3 => some (q3.1, q3.2))) else none)
set_option maxRecDepth 100000 in
set_option maxHeartbeats 2000000 in
theorem G_X4_item {d : Nat} (hd : 1 ≤ d) (x0 : Nat) (x1 : Int32) (J : zzJ) (r : Int32 × zzJ) (h : F_X4_item x0 x1 J = some r) : zzEv d 72 0 [.ref x0, .int x1] [] (zK J) (some (.int r.1), zK r.2) := by
  unfold F_X4_item at h
  refine ev_aload_n zo_72_0 rfl rfl rfl rfl ?_
  obtain ⟨c1, h⟩ := zz_chk h
  obtain ⟨b2, eb2, h⟩ := zz_bd h
  refine ev_getR zo_72_1 zf_72_18 (by decide) rfl c1 eb2 rfl ?_
  refine ev_iload_n zo_72_4 rfl rfl rfl ?_
  obtain ⟨q3, hq3, h⟩ := zz_bd h
  refine ev_cS (as := [.int x1, .ref b2]) (lsn := [.ref b2, .int x1]) (by omega) zo_72_5 zl_72_26 (by decide) (by rw [zm_125]; rfl) (by unfold zzIn; rw [zm_125]; rfl) (by rw [zm_125]; exact Nat.le_of_ble_eq_true rfl) (Nat.le_of_ble_eq_true rfl) (G_X6_itemAt (by omega) b2 x1 J q3 hq3) rfl ?_
  show zzEv _ _ _ _ [.int q3.1] _ _
  obtain rfl := Option.some.inj h
  exact ev_retI zo_72_8 zr_72
/-! X0_otherwise -/
def F_X0_otherwise_4 : Nat → Nat → Nat → Int32 → Int32 → zzJ → Option (Int32 × zzJ)
  | 0, _, _, _, _, _ => none
  | n + 1, l0, l1, l2, l3, J => (if zKd l0 = 0 then (if l3 < (J.2 l0 4) then (Option.bind (F_X0_noise l0 l3 J) fun q3 => (if zKd l1 = 4 then (Option.bind (F_X4_item l1 l3 q3.2) fun q5 => (if q3.1 = q5.1 then F_X0_otherwise_4 n l0 l1 l2 (l3 + 1) q5.2 else F_X0_otherwise_4 n l0 l1 (l2 ||| ((1 : Int32) <<< (l3 &&& 31))) (l3 + 1) q5.2)) else none)) else some (l2, J)) else none)
set_option maxRecDepth 100000 in
set_option maxHeartbeats 2000000 in
theorem G_X0_otherwise_4 {d : Nat} (hd : 4 ≤ d) : ∀ (n : Nat) (l0 : Nat) (l1 : Nat) (l2 : Int32) (l3 : Int32) (J : zzJ) (r : Int32 × zzJ), F_X0_otherwise_4 n l0 l1 l2 l3 J = some r → zzEv d 28 4 [.ref l0, .ref l1, .int l2, .int l3] [] (zK J) (some (.int r.1), zK r.2) := by
  intro n
  induction n with
  | zero => intro l0 l1 l2 l3 J r h; simp [F_X0_otherwise_4] at h
  | succ n ih =>
    intro l0 l1 l2 l3 J r h
    rw [F_X0_otherwise_4] at h
    refine ev_iload_n zo_28_4 rfl rfl rfl ?_
    refine ev_aload_n zo_28_5 rfl rfl rfl rfl ?_
    obtain ⟨c1, h⟩ := zz_chk h
    refine ev_getI zo_28_6 zf_28_25 (by decide) (Or.inl rfl) c1 rfl ?_
    by_cases c2 : l3 < (J.2 l0 4)
    · rw [if_pos c2] at h
      refine ev_cmp_f (t := 37) zo_28_9 rfl (zcm_nge c2) rfl ?_
      refine ev_aload_n zo_28_12 rfl rfl rfl rfl ?_
      refine ev_iload_n zo_28_13 rfl rfl rfl ?_
      obtain ⟨q3, hq3, h⟩ := zz_bd h
      refine ev_cV (as := [.int l3]) (lsn := [.ref l0, .int l3, zzU, zzU]) (by omega) zo_28_14 zl_28_136 (by rw [zm_21]; rfl) (by rw [zm_21]; exact c1) (by rw [zm_21]; decide) (by unfold zzIn; rw [zm_21]; rfl) (by rw [zm_21]; exact Nat.le_of_ble_eq_true rfl) (Nat.le_of_ble_eq_true rfl) (G_X0_noise (by omega) l0 l3 J q3 hq3) rfl ?_
      show zzEv _ _ _ _ [.int q3.1] _ _
      refine ev_aload_n zo_28_17 rfl rfl rfl rfl ?_
      refine ev_iload_n zo_28_18 rfl rfl rfl ?_
      obtain ⟨c4, h⟩ := zz_chk h
      obtain ⟨q5, hq5, h⟩ := zz_bd h
      refine ev_cV (as := [.int l3]) (lsn := [.ref l1, .int l3]) (by omega) zo_28_19 zl_28_142 (by rw [zm_72]; rfl) (by rw [zm_72]; exact c4) (by rw [zm_72]; decide) (by unfold zzIn; rw [zm_72]; rfl) (by rw [zm_72]; exact Nat.le_of_ble_eq_true rfl) (Nat.le_of_ble_eq_true rfl) (G_X4_item (by omega) l1 l3 q3.2 q5 hq5) rfl ?_
      show zzEv _ _ _ _ [.int q5.1, .int q3.1] _ _
      by_cases c6 : q3.1 = q5.1
      · rw [if_pos c6] at h
        refine ev_cmp_t (t := 31) zo_28_22 rfl (zcm_eq c6) ?_
        refine ev_iinc (v := 1) zo_28_31 rfl (by decide) (zz_set rfl (by decide) (Nat.le_of_ble_eq_true rfl)) rfl ?_
        show zzEv _ _ _ [.ref l0, .ref l1, .int l2, .int (l3 + 1)] _ _ _
        refine ev_goto (t := 4) zo_28_34 rfl ?_
        exact ih l0 l1 l2 (l3 + 1) q5.2 r h
      rw [if_neg c6] at h
      refine ev_cmp_f (t := 31) zo_28_22 rfl (zcm_neq c6) rfl ?_
      refine ev_iload_n zo_28_25 rfl rfl rfl ?_
      refine ev_iconst (x := 1) zo_28_26 (by decide) rfl ?_
      refine ev_iload_n zo_28_27 rfl rfl rfl ?_
      refine ev_ishl zo_28_28 rfl ?_
      refine ev_ior zo_28_29 rfl ?_
      refine ev_istore_n zo_28_30 rfl (zz_set rfl (by decide) (Nat.le_of_ble_eq_true rfl)) rfl ?_
      show zzEv _ _ _ [.ref l0, .ref l1, .int (l2 ||| ((1 : Int32) <<< (l3 &&& 31))), .int l3] _ _ _
      refine ev_iinc (v := 1) zo_28_31 rfl (by decide) (zz_set rfl (by decide) (Nat.le_of_ble_eq_true rfl)) rfl ?_
      show zzEv _ _ _ [.ref l0, .ref l1, .int (l2 ||| ((1 : Int32) <<< (l3 &&& 31))), .int (l3 + 1)] _ _ _
      refine ev_goto (t := 4) zo_28_34 rfl ?_
      exact ih l0 l1 (l2 ||| ((1 : Int32) <<< (l3 &&& 31))) (l3 + 1) q5.2 r h
    rw [if_neg c2] at h
    refine ev_cmp_t (t := 37) zo_28_9 rfl (zcm_ge c2) ?_
    refine ev_iload_n zo_28_37 rfl rfl rfl ?_
    obtain rfl := Option.some.inj h
    exact ev_retI zo_28_38 zr_28
def F_X0_otherwise (x0 : Nat) (x1 : Nat) (J : zzJ) : Option (Int32 × zzJ) := F_X0_otherwise_4 4096 x0 x1 (0 : Int32) (0 : Int32) J
set_option maxRecDepth 100000 in
set_option maxHeartbeats 2000000 in
theorem G_X0_otherwise {d : Nat} (hd : 4 ≤ d) (x0 : Nat) (x1 : Nat) (J : zzJ) (r : Int32 × zzJ) (h : F_X0_otherwise x0 x1 J = some r) : zzEv d 28 0 [.ref x0, .ref x1, zzU, zzU] [] (zK J) (some (.int r.1), zK r.2) := by
  unfold F_X0_otherwise at h
  refine ev_iconst (x := 0) zo_28_0 (by decide) rfl ?_
  refine ev_istore_n zo_28_1 rfl (zz_set rfl (by decide) (Nat.le_of_ble_eq_true rfl)) rfl ?_
  show zzEv _ _ _ [.ref x0, .ref x1, .int (0 : Int32), zzU] _ _ _
  refine ev_iconst (x := 0) zo_28_2 (by decide) rfl ?_
  refine ev_istore_n zo_28_3 rfl (zz_set rfl (by decide) (Nat.le_of_ble_eq_true rfl)) rfl ?_
  show zzEv _ _ _ [.ref x0, .ref x1, .int (0 : Int32), .int (0 : Int32)] _ _ _
  exact G_X0_otherwise_4 hd 4096 x0 x1 (0 : Int32) (0 : Int32) J r h
/-! X1_isUnlike -/
def F_X1_isUnlike_12 (kl_2 : Nat → Int32 → zzJ → Option (Int32 × zzJ)) : Nat → Nat → Int32 → Int32 → zzJ → Option (Int32 × zzJ)
  | 0, _, _, _, _ => none
  | n + 1, l1, l2, l3, J => (if l3 < l2 then (Option.bind (F_X6_itemAt l1 l2 J) fun q2 => (Option.bind (F_X6_itemAt l1 l3 q2.2) fun q3 => (if q2.1 = q3.1 then some ((0 : Int32), q3.2) else F_X1_isUnlike_12 kl_2 n l1 l2 (l3 + 1) q3.2))) else kl_2 l1 (l2 + 1) J)
set_option maxRecDepth 100000 in
set_option maxHeartbeats 2000000 in
theorem G_X1_isUnlike_12 {d : Nat} (kl_2 : Nat → Int32 → zzJ → Option (Int32 × zzJ)) (hkl_2 : ∀ (l1 : Nat) (l2 : Int32) (J : zzJ) (r : Int32 × zzJ), kl_2 l1 l2 J = some r → ∀ (lv3 : Value) (hlv3 : lv3.category = 1), zzEv d 31 2 [.ref 33, .ref l1, .int l2, lv3] [] (zK J) (some (.int r.1), zK r.2)) (hd : 1 ≤ d) : ∀ (n : Nat) (l1 : Nat) (l2 : Int32) (l3 : Int32) (J : zzJ) (r : Int32 × zzJ), F_X1_isUnlike_12 kl_2 n l1 l2 l3 J = some r → zzEv d 31 12 [.ref 33, .ref l1, .int l2, .int l3] [] (zK J) (some (.int r.1), zK r.2) := by
  intro n
  induction n with
  | zero => intro l1 l2 l3 J r h; simp [F_X1_isUnlike_12] at h
  | succ n ih =>
    intro l1 l2 l3 J r h
    rw [F_X1_isUnlike_12] at h
    refine ev_iload_n zo_31_12 rfl rfl rfl ?_
    refine ev_iload_n zo_31_13 rfl rfl rfl ?_
    by_cases c1 : l3 < l2
    · rw [if_pos c1] at h
      refine ev_cmp_f (t := 38) zo_31_14 rfl (zcm_nge c1) rfl ?_
      refine ev_aload_n zo_31_17 rfl rfl rfl rfl ?_
      refine ev_iload_n zo_31_18 rfl rfl rfl ?_
      obtain ⟨q2, hq2, h⟩ := zz_bd h
      refine ev_cS (as := [.int l2, .ref l1]) (lsn := [.ref l1, .int l2]) (by omega) zo_31_19 zl_31_48 (by decide) (by rw [zm_125]; rfl) (by unfold zzIn; rw [zm_125]; rfl) (by rw [zm_125]; exact Nat.le_of_ble_eq_true rfl) (Nat.le_of_ble_eq_true rfl) (G_X6_itemAt (by omega) l1 l2 J q2 hq2) rfl ?_
      show zzEv _ _ _ _ [.int q2.1] _ _
      refine ev_aload_n zo_31_22 rfl rfl rfl rfl ?_
      refine ev_iload_n zo_31_23 rfl rfl rfl ?_
      obtain ⟨q3, hq3, h⟩ := zz_bd h
      refine ev_cS (as := [.int l3, .ref l1]) (lsn := [.ref l1, .int l3]) (by omega) zo_31_24 zl_31_48 (by decide) (by rw [zm_125]; rfl) (by unfold zzIn; rw [zm_125]; rfl) (by rw [zm_125]; exact Nat.le_of_ble_eq_true rfl) (Nat.le_of_ble_eq_true rfl) (G_X6_itemAt (by omega) l1 l3 q2.2 q3 hq3) rfl ?_
      show zzEv _ _ _ _ [.int q3.1, .int q2.1] _ _
      by_cases c4 : q2.1 = q3.1
      · rw [if_pos c4] at h
        refine ev_cmp_f (t := 32) zo_31_27 rfl (zcm_nne c4) rfl ?_
        refine ev_iconst (x := 0) zo_31_30 (by decide) rfl ?_
        obtain rfl := Option.some.inj h
        exact ev_retZ zo_31_31 zr_31 (Or.inl rfl)
      rw [if_neg c4] at h
      refine ev_cmp_t (t := 32) zo_31_27 rfl (zcm_ne c4) ?_
      refine ev_iinc (v := 1) zo_31_32 rfl (by decide) (zz_set rfl (by decide) (Nat.le_of_ble_eq_true rfl)) rfl ?_
      show zzEv _ _ _ [.ref 33, .ref l1, .int l2, .int (l3 + 1)] _ _ _
      refine ev_goto (t := 12) zo_31_35 rfl ?_
      exact ih l1 l2 (l3 + 1) q3.2 r h
    rw [if_neg c1] at h
    refine ev_cmp_t (t := 38) zo_31_14 rfl (zcm_ge c1) ?_
    refine ev_iinc (v := 1) zo_31_38 rfl (by decide) (zz_set rfl (by decide) (Nat.le_of_ble_eq_true rfl)) rfl ?_
    show zzEv _ _ _ [.ref 33, .ref l1, .int (l2 + 1), .int l3] _ _ _
    refine ev_goto (t := 2) zo_31_41 rfl ?_
    exact hkl_2 l1 (l2 + 1) J r h (.int l3) rfl
def F_X1_isUnlike_2 : Nat → Nat → Int32 → zzJ → Option (Int32 × zzJ)
  | 0, _, _, _ => none
  | n + 1, l1, l2, J => (if l2 < (J.2 33 3) then F_X1_isUnlike_12 (F_X1_isUnlike_2 n) 4096 l1 l2 (0 : Int32) J else some ((1 : Int32), J))
set_option maxRecDepth 100000 in
set_option maxHeartbeats 2000000 in
theorem G_X1_isUnlike_2 {d : Nat} (hd : 1 ≤ d) : ∀ (n : Nat) (l1 : Nat) (l2 : Int32) (J : zzJ) (r : Int32 × zzJ), F_X1_isUnlike_2 n l1 l2 J = some r → ∀ (lv3 : Value) (hlv3 : lv3.category = 1), zzEv d 31 2 [.ref 33, .ref l1, .int l2, lv3] [] (zK J) (some (.int r.1), zK r.2) := by
  intro n
  induction n with
  | zero => intro l1 l2 J r h; simp [F_X1_isUnlike_2] at h
  | succ n ih =>
    intro l1 l2 J r h lv3 hlv3
    rw [F_X1_isUnlike_2] at h
    refine ev_iload_n zo_31_2 rfl rfl rfl ?_
    refine ev_aload_n zo_31_3 rfl rfl rfl rfl ?_
    refine ev_getI zo_31_4 zf_31_31 (by decide) (Or.inl rfl) rfl rfl ?_
    by_cases c5 : l2 < (J.2 33 3)
    · rw [if_pos c5] at h
      refine ev_cmp_f (t := 44) zo_31_7 rfl (zcm_nge c5) rfl ?_
      refine ev_iconst (x := 0) zo_31_10 (by decide) rfl ?_
      refine ev_istore_n zo_31_11 rfl (zz_set rfl (by decide) (Nat.le_of_ble_eq_true rfl)) rfl ?_
      show zzEv _ _ _ [.ref 33, .ref l1, .int l2, .int (0 : Int32)] _ _ _
      exact G_X1_isUnlike_12 (F_X1_isUnlike_2 n) ih hd 4096 l1 l2 (0 : Int32) J r h
    rw [if_neg c5] at h
    refine ev_cmp_t (t := 44) zo_31_7 rfl (zcm_ge c5) ?_
    refine ev_iconst (x := 1) zo_31_44 (by decide) rfl ?_
    obtain rfl := Option.some.inj h
    exact ev_retZ zo_31_45 zr_31 (Or.inr rfl)
def F_X1_isUnlike (x1 : Nat) (J : zzJ) : Option (Int32 × zzJ) := F_X1_isUnlike_2 4096 x1 (0 : Int32) J
set_option maxRecDepth 100000 in
set_option maxHeartbeats 2000000 in
theorem G_X1_isUnlike {d : Nat} (hd : 1 ≤ d) (x1 : Nat) (J : zzJ) (r : Int32 × zzJ) (h : F_X1_isUnlike x1 J = some r) : zzEv d 31 0 [.ref 33, .ref x1, zzU, zzU] [] (zK J) (some (.int r.1), zK r.2) := by
  unfold F_X1_isUnlike at h
  refine ev_iconst (x := 0) zo_31_0 (by decide) rfl ?_
  refine ev_istore_n zo_31_1 rfl (zz_set rfl (by decide) (Nat.le_of_ble_eq_true rfl)) rfl ?_
  show zzEv _ _ _ [.ref 33, .ref x1, .int (0 : Int32), zzU] _ _ _
  exact G_X1_isUnlike_2 hd 4096 x1 (0 : Int32) J r h (zzU) rfl
/-! X1_isTold -/
def F_X1_isTold_2 : Nat → Int32 → Int32 → zzJ → Option (Int32 × zzJ)
  | 0, _, _, _ => none
  | n + 1, l1, l2, J => (if l2 < (J.2 33 3) then (Option.bind (F_X6_itemAt 34 l2 J) fun q2 => (if q2.1 = l1 then some ((1 : Int32), q2.2) else F_X1_isTold_2 n l1 (l2 + 1) q2.2)) else some ((0 : Int32), J))
set_option maxRecDepth 100000 in
set_option maxHeartbeats 2000000 in
theorem G_X1_isTold_2 {d : Nat} (hd : 1 ≤ d) : ∀ (n : Nat) (l1 : Int32) (l2 : Int32) (J : zzJ) (r : Int32 × zzJ), F_X1_isTold_2 n l1 l2 J = some r → zzEv d 33 2 [.ref 33, .int l1, .int l2] [] (zK J) (some (.int r.1), zK r.2) := by
  intro n
  induction n with
  | zero => intro l1 l2 J r h; simp [F_X1_isTold_2] at h
  | succ n ih =>
    intro l1 l2 J r h
    rw [F_X1_isTold_2] at h
    refine ev_iload_n zo_33_2 rfl rfl rfl ?_
    refine ev_aload_n zo_33_3 rfl rfl rfl rfl ?_
    refine ev_getI zo_33_4 zf_33_31 (by decide) (Or.inl rfl) rfl rfl ?_
    by_cases c1 : l2 < (J.2 33 3)
    · rw [if_pos c1] at h
      refine ev_cmp_f (t := 30) zo_33_7 rfl (zcm_nge c1) rfl ?_
      refine ev_aload_n zo_33_10 rfl rfl rfl rfl ?_
      refine ev_getR zo_33_11 zf_33_9 (by decide) rfl rfl rfl rfl ?_
      refine ev_iload_n zo_33_14 rfl rfl rfl ?_
      obtain ⟨q2, hq2, h⟩ := zz_bd h
      refine ev_cS (as := [.int l2, .ref 34]) (lsn := [.ref 34, .int l2]) (by omega) zo_33_15 zl_33_48 (by decide) (by rw [zm_125]; rfl) (by unfold zzIn; rw [zm_125]; rfl) (by rw [zm_125]; exact Nat.le_of_ble_eq_true rfl) (Nat.le_of_ble_eq_true rfl) (G_X6_itemAt (by omega) 34 l2 J q2 hq2) rfl ?_
      show zzEv _ _ _ _ [.int q2.1] _ _
      refine ev_iload_n zo_33_18 rfl rfl rfl ?_
      by_cases c3 : q2.1 = l1
      · rw [if_pos c3] at h
        refine ev_cmp_f (t := 24) zo_33_19 rfl (zcm_nne c3) rfl ?_
        refine ev_iconst (x := 1) zo_33_22 (by decide) rfl ?_
        obtain rfl := Option.some.inj h
        exact ev_retZ zo_33_23 zr_33 (Or.inr rfl)
      rw [if_neg c3] at h
      refine ev_cmp_t (t := 24) zo_33_19 rfl (zcm_ne c3) ?_
      refine ev_iinc (v := 1) zo_33_24 rfl (by decide) (zz_set rfl (by decide) (Nat.le_of_ble_eq_true rfl)) rfl ?_
      show zzEv _ _ _ [.ref 33, .int l1, .int (l2 + 1)] _ _ _
      refine ev_goto (t := 2) zo_33_27 rfl ?_
      exact ih l1 (l2 + 1) q2.2 r h
    rw [if_neg c1] at h
    refine ev_cmp_t (t := 30) zo_33_7 rfl (zcm_ge c1) ?_
    refine ev_iconst (x := 0) zo_33_30 (by decide) rfl ?_
    obtain rfl := Option.some.inj h
    exact ev_retZ zo_33_31 zr_33 (Or.inl rfl)
def F_X1_isTold (x1 : Int32) (J : zzJ) : Option (Int32 × zzJ) := F_X1_isTold_2 4096 x1 (0 : Int32) J
set_option maxRecDepth 100000 in
set_option maxHeartbeats 2000000 in
theorem G_X1_isTold {d : Nat} (hd : 1 ≤ d) (x1 : Int32) (J : zzJ) (r : Int32 × zzJ) (h : F_X1_isTold x1 J = some r) : zzEv d 33 0 [.ref 33, .int x1, zzU] [] (zK J) (some (.int r.1), zK r.2) := by
  unfold F_X1_isTold at h
  refine ev_iconst (x := 0) zo_33_0 (by decide) rfl ?_
  refine ev_istore_n zo_33_1 rfl (zz_set rfl (by decide) (Nat.le_of_ble_eq_true rfl)) rfl ?_
  show zzEv _ _ _ [.ref 33, .int x1, .int (0 : Int32)] _ _ _
  exact G_X1_isTold_2 hd 4096 x1 (0 : Int32) J r h
/-! X1_isAllThere -/
def F_X1_isAllThere_2 : Nat → Nat → Int32 → zzJ → Option (Int32 × zzJ)
  | 0, _, _, _ => none
  | n + 1, l1, l2, J => (if l2 < (J.2 33 3) then (Option.bind (F_X6_itemAt 35 l2 J) fun q2 => (Option.bind (F_X6_itemAt 34 l2 q2.2) fun q3 => (if zKd l1 = 0 then (Option.bind (F_X0_has l1 q3.1 q3.2) fun q5 => (if q5.1 = (0 : Int32) then some ((0 : Int32), q5.2) else (if q2.1 < (0 : Int32) then some ((0 : Int32), q5.2) else (if q2.1 < (24 : Int32) then (Option.bind (F_X0_sitterAt l1 q2.1 q5.2) fun q9 => (if q9.1 = (-1 : Int32) then F_X1_isAllThere_2 n l1 (l2 + 1) q9.2 else (Option.bind (F_X1_isTold q9.1 q9.2) fun q11 => (if q11.1 = (0 : Int32) then some ((0 : Int32), q11.2) else F_X1_isAllThere_2 n l1 (l2 + 1) q11.2)))) else some ((0 : Int32), q5.2))))) else none))) else some ((1 : Int32), J))
set_option maxRecDepth 100000 in
set_option maxHeartbeats 2000000 in
theorem G_X1_isAllThere_2 {d : Nat} (hd : 2 ≤ d) : ∀ (n : Nat) (l1 : Nat) (l2 : Int32) (J : zzJ) (r : Int32 × zzJ), F_X1_isAllThere_2 n l1 l2 J = some r → ∀ (lv3 : Value) (hlv3 : lv3.category = 1), ∀ (lv4 : Value) (hlv4 : lv4.category = 1), zzEv d 32 2 [.ref 33, .ref l1, .int l2, lv3, lv4] [] (zK J) (some (.int r.1), zK r.2) := by
  intro n
  induction n with
  | zero => intro l1 l2 J r h; simp [F_X1_isAllThere_2] at h
  | succ n ih =>
    intro l1 l2 J r h lv3 hlv3 lv4 hlv4
    rw [F_X1_isAllThere_2] at h
    refine ev_iload_n zo_32_2 rfl rfl rfl ?_
    refine ev_aload_n zo_32_3 rfl rfl rfl rfl ?_
    refine ev_getI zo_32_4 zf_32_31 (by decide) (Or.inl rfl) rfl rfl ?_
    by_cases c1 : l2 < (J.2 33 3)
    · rw [if_pos c1] at h
      refine ev_cmp_f (t := 76) zo_32_7 rfl (zcm_nge c1) rfl ?_
      refine ev_aload_n zo_32_10 rfl rfl rfl rfl ?_
      refine ev_getR zo_32_11 zf_32_15 (by decide) rfl rfl rfl rfl ?_
      refine ev_iload_n zo_32_14 rfl rfl rfl ?_
      obtain ⟨q2, hq2, h⟩ := zz_bd h
      refine ev_cS (as := [.int l2, .ref 35]) (lsn := [.ref 35, .int l2]) (by omega) zo_32_15 zl_32_48 (by decide) (by rw [zm_125]; rfl) (by unfold zzIn; rw [zm_125]; rfl) (by rw [zm_125]; exact Nat.le_of_ble_eq_true rfl) (Nat.le_of_ble_eq_true rfl) (G_X6_itemAt (by omega) 35 l2 J q2 hq2) rfl ?_
      show zzEv _ _ _ _ [.int q2.1] _ _
      refine ev_istore_n zo_32_18 rfl (zz_set rfl (by decide) (Nat.le_of_ble_eq_true rfl)) rfl ?_
      show zzEv _ _ _ [.ref 33, .ref l1, .int l2, .int q2.1, lv4] _ _ _
      refine ev_aload_n zo_32_19 rfl rfl rfl rfl ?_
      refine ev_aload_n zo_32_20 rfl rfl rfl rfl ?_
      refine ev_getR zo_32_21 zf_32_9 (by decide) rfl rfl rfl rfl ?_
      refine ev_iload_n zo_32_24 rfl rfl rfl ?_
      obtain ⟨q3, hq3, h⟩ := zz_bd h
      refine ev_cS (as := [.int l2, .ref 34]) (lsn := [.ref 34, .int l2]) (by omega) zo_32_25 zl_32_48 (by decide) (by rw [zm_125]; rfl) (by unfold zzIn; rw [zm_125]; rfl) (by rw [zm_125]; exact Nat.le_of_ble_eq_true rfl) (Nat.le_of_ble_eq_true rfl) (G_X6_itemAt (by omega) 34 l2 q2.2 q3 hq3) rfl ?_
      show zzEv _ _ _ _ [.int q3.1, .ref l1] _ _
      obtain ⟨c4, h⟩ := zz_chk h
      obtain ⟨q5, hq5, h⟩ := zz_bd h
      refine ev_cV (as := [.int q3.1]) (lsn := [.ref l1, .int q3.1]) (by omega) zo_32_28 zl_32_52 (by rw [zm_2]; rfl) (by rw [zm_2]; exact c4) (by rw [zm_2]; decide) (by unfold zzIn; rw [zm_2]; rfl) (by rw [zm_2]; exact Nat.le_of_ble_eq_true rfl) (Nat.le_of_ble_eq_true rfl) (G_X0_has (by omega) l1 q3.1 q3.2 q5 hq5) rfl ?_
      show zzEv _ _ _ _ [.int q5.1] _ _
      by_cases c6 : q5.1 = (0 : Int32)
      · rw [if_pos c6] at h
        refine ev_if_t (t := 44) zo_32_31 rfl (zcm_eq c6) ?_
        refine ev_iconst (x := 0) zo_32_44 (by decide) rfl ?_
        obtain rfl := Option.some.inj h
        exact ev_retZ zo_32_45 zr_32 (Or.inl rfl)
      rw [if_neg c6] at h
      refine ev_if_f (t := 44) zo_32_31 rfl (zcm_neq c6) rfl ?_
      refine ev_iload_n zo_32_34 rfl rfl rfl ?_
      by_cases c7 : q2.1 < (0 : Int32)
      · rw [if_pos c7] at h
        refine ev_if_t (t := 44) zo_32_35 rfl (zcm_lt c7) ?_
        refine ev_iconst (x := 0) zo_32_44 (by decide) rfl ?_
        obtain rfl := Option.some.inj h
        exact ev_retZ zo_32_45 zr_32 (Or.inl rfl)
      rw [if_neg c7] at h
      refine ev_if_f (t := 44) zo_32_35 rfl (zcm_nlt c7) rfl ?_
      refine ev_iload_n zo_32_38 rfl rfl rfl ?_
      refine ev_bipush (x := 24) zo_32_39 (by decide) rfl ?_
      by_cases c8 : q2.1 < (24 : Int32)
      · rw [if_pos c8] at h
        refine ev_cmp_t (t := 46) zo_32_41 rfl (zcm_lt c8) ?_
        refine ev_aload_n zo_32_46 rfl rfl rfl rfl ?_
        refine ev_iload_n zo_32_47 rfl rfl rfl ?_
        obtain ⟨q9, hq9, h⟩ := zz_bd h
        refine ev_cV (as := [.int q2.1]) (lsn := [.ref l1, .int q2.1]) (by omega) zo_32_48 zl_32_58 (by rw [zm_9]; rfl) (by rw [zm_9]; exact c4) (by rw [zm_9]; decide) (by unfold zzIn; rw [zm_9]; rfl) (by rw [zm_9]; exact Nat.le_of_ble_eq_true rfl) (Nat.le_of_ble_eq_true rfl) (G_X0_sitterAt (by omega) l1 q2.1 q5.2 q9 hq9) rfl ?_
        show zzEv _ _ _ _ [.int q9.1] _ _
        refine ev_istore zo_32_51 (zz_set rfl (by decide) (Nat.le_of_ble_eq_true rfl)) rfl ?_
        show zzEv _ _ _ [.ref 33, .ref l1, .int l2, .int q2.1, .int q9.1] _ _ _
        refine ev_iload zo_32_53 rfl rfl ?_
        refine ev_iconst (x := (-1)) zo_32_55 (by decide) rfl ?_
        by_cases c10 : q9.1 = (-1 : Int32)
        · rw [if_pos c10] at h
          refine ev_cmp_t (t := 70) zo_32_56 rfl (zcm_eq c10) ?_
          refine ev_iinc (v := 1) zo_32_70 rfl (by decide) (zz_set rfl (by decide) (Nat.le_of_ble_eq_true rfl)) rfl ?_
          show zzEv _ _ _ [.ref 33, .ref l1, .int (l2 + 1), .int q2.1, .int q9.1] _ _ _
          refine ev_goto (t := 2) zo_32_73 rfl ?_
          exact ih l1 (l2 + 1) q9.2 r h (.int q2.1) rfl (.int q9.1) rfl
        rw [if_neg c10] at h
        refine ev_cmp_f (t := 70) zo_32_56 rfl (zcm_neq c10) rfl ?_
        refine ev_aload_n zo_32_59 rfl rfl rfl rfl ?_
        refine ev_iload zo_32_60 rfl rfl ?_
        obtain ⟨q11, hq11, h⟩ := zz_bd h
        refine ev_cV (as := [.int q9.1]) (lsn := [.ref 33, .int q9.1, zzU]) (by omega) zo_32_62 zl_32_61 (by rw [zm_33]; rfl) (by rw [zm_33]; exact rfl) (by rw [zm_33]; decide) (by unfold zzIn; rw [zm_33]; rfl) (by rw [zm_33]; exact Nat.le_of_ble_eq_true rfl) (Nat.le_of_ble_eq_true rfl) (G_X1_isTold (by omega) q9.1 q9.2 q11 hq11) rfl ?_
        show zzEv _ _ _ _ [.int q11.1] _ _
        by_cases c12 : q11.1 = (0 : Int32)
        · rw [if_pos c12] at h
          refine ev_if_f (t := 70) zo_32_65 rfl (zcm_nne c12) rfl ?_
          refine ev_iconst (x := 0) zo_32_68 (by decide) rfl ?_
          obtain rfl := Option.some.inj h
          exact ev_retZ zo_32_69 zr_32 (Or.inl rfl)
        rw [if_neg c12] at h
        refine ev_if_t (t := 70) zo_32_65 rfl (zcm_ne c12) ?_
        refine ev_iinc (v := 1) zo_32_70 rfl (by decide) (zz_set rfl (by decide) (Nat.le_of_ble_eq_true rfl)) rfl ?_
        show zzEv _ _ _ [.ref 33, .ref l1, .int (l2 + 1), .int q2.1, .int q9.1] _ _ _
        refine ev_goto (t := 2) zo_32_73 rfl ?_
        exact ih l1 (l2 + 1) q11.2 r h (.int q2.1) rfl (.int q9.1) rfl
      rw [if_neg c8] at h
      refine ev_cmp_f (t := 46) zo_32_41 rfl (zcm_nlt c8) rfl ?_
      refine ev_iconst (x := 0) zo_32_44 (by decide) rfl ?_
      obtain rfl := Option.some.inj h
      exact ev_retZ zo_32_45 zr_32 (Or.inl rfl)
    rw [if_neg c1] at h
    refine ev_cmp_t (t := 76) zo_32_7 rfl (zcm_ge c1) ?_
    refine ev_iconst (x := 1) zo_32_76 (by decide) rfl ?_
    obtain rfl := Option.some.inj h
    exact ev_retZ zo_32_77 zr_32 (Or.inr rfl)
def F_X1_isAllThere (x1 : Nat) (J : zzJ) : Option (Int32 × zzJ) := F_X1_isAllThere_2 4096 x1 (0 : Int32) J
set_option maxRecDepth 100000 in
set_option maxHeartbeats 2000000 in
theorem G_X1_isAllThere {d : Nat} (hd : 2 ≤ d) (x1 : Nat) (J : zzJ) (r : Int32 × zzJ) (h : F_X1_isAllThere x1 J = some r) : zzEv d 32 0 [.ref 33, .ref x1, zzU, zzU, zzU] [] (zK J) (some (.int r.1), zK r.2) := by
  unfold F_X1_isAllThere at h
  refine ev_iconst (x := 0) zo_32_0 (by decide) rfl ?_
  refine ev_istore_n zo_32_1 rfl (zz_set rfl (by decide) (Nat.le_of_ble_eq_true rfl)) rfl ?_
  show zzEv _ _ _ [.ref 33, .ref x1, .int (0 : Int32), zzU, zzU] _ _ _
  exact G_X1_isAllThere_2 hd 4096 x1 (0 : Int32) J r h (zzU) rfl (zzU) rfl
/-! X4_isMissing -/
def F_X4_isMissing (x0 : Nat) (J : zzJ) : Option (Int32 × zzJ) := (if zKd x0 = 4 then (if (J.2 x0 0) = (-1 : Int32) then some ((1 : Int32), J) else some ((0 : Int32), J)) else none)
set_option maxRecDepth 100000 in
set_option maxHeartbeats 2000000 in
theorem G_X4_isMissing {d : Nat} (hd : 0 ≤ d) (x0 : Nat) (J : zzJ) (r : Int32 × zzJ) (h : F_X4_isMissing x0 J = some r) : zzEv d 69 0 [.ref x0] [] (zK J) (some (.int r.1), zK r.2) := by
  unfold F_X4_isMissing at h
  refine ev_aload_n zo_69_0 rfl rfl rfl rfl ?_
  obtain ⟨c1, h⟩ := zz_chk h
  refine ev_getI zo_69_1 zf_69_9 (by decide) (Or.inl rfl) c1 rfl ?_
  refine ev_iconst (x := (-1)) zo_69_4 (by decide) rfl ?_
  by_cases c2 : (J.2 x0 0) = (-1 : Int32)
  · rw [if_pos c2] at h
    refine ev_cmp_f (t := 12) zo_69_5 rfl (zcm_nne c2) rfl ?_
    refine ev_iconst (x := 1) zo_69_8 (by decide) rfl ?_
    refine ev_goto (t := 13) zo_69_9 rfl ?_
    obtain rfl := Option.some.inj h
    exact ev_retZ zo_69_13 zr_69 (Or.inr rfl)
  rw [if_neg c2] at h
  refine ev_cmp_t (t := 12) zo_69_5 rfl (zcm_ne c2) ?_
  refine ev_iconst (x := 0) zo_69_12 (by decide) rfl ?_
  obtain rfl := Option.some.inj h
  exact ev_retZ zo_69_13 zr_69 (Or.inl rfl)
/-! X1_takes -/
def F_X1_takes_49 : Nat → Nat → Nat → Int32 → zzJ → Option (Int32 × zzJ)
  | 0, _, _, _, _ => none
  | n + 1, l1, l2, l3, J => (if l3 < (J.2 33 3) then (if zKd l1 = 4 then (Option.bind (F_X4_item l1 l3 J) fun q9 => (Option.bind (F_X6_put 34 l3 q9.1 q9.2) fun q10 => (Option.bind (F_X4_item l1 ((q10.2 33 3) + l3) q10) fun q11 => (Option.bind (F_X6_put 35 l3 q11.1 q11.2) fun q12 => F_X1_takes_49 n l1 l2 (l3 + 1) q12)))) else none) else (Option.bind (F_X1_isUnlike 34 J) fun q2 => (if q2.1 = (0 : Int32) then some ((0 : Int32), q2.2) else (Option.bind (F_X1_isUnlike 35 q2.2) fun q4 => (if q4.1 = (0 : Int32) then some ((0 : Int32), q4.2) else (Option.bind (F_X1_isAllThere l2 q4.2) fun q6 => (if q6.1 = (0 : Int32) then some ((0 : Int32), q6.2) else some ((1 : Int32), q6.2))))))))
set_option maxRecDepth 100000 in
set_option maxHeartbeats 2000000 in
theorem G_X1_takes_49 {d : Nat} (hd : 3 ≤ d) : ∀ (n : Nat) (l1 : Nat) (l2 : Nat) (l3 : Int32) (J : zzJ) (r : Int32 × zzJ), F_X1_takes_49 n l1 l2 l3 J = some r → zzEv d 30 49 [.ref 33, .ref l1, .ref l2, .int l3] [] (zK J) (some (.int r.1), zK r.2) := by
  intro n
  induction n with
  | zero => intro l1 l2 l3 J r h; simp [F_X1_takes_49] at h
  | succ n ih =>
    intro l1 l2 l3 J r h
    rw [F_X1_takes_49] at h
    refine ev_iload_n zo_30_49 rfl rfl rfl ?_
    refine ev_aload_n zo_30_50 rfl rfl rfl rfl ?_
    refine ev_getI zo_30_51 zf_30_31 (by decide) (Or.inl rfl) rfl rfl ?_
    by_cases c1 : l3 < (J.2 33 3)
    · rw [if_pos c1] at h
      refine ev_cmp_f (t := 94) zo_30_54 rfl (zcm_nge c1) rfl ?_
      refine ev_aload_n zo_30_57 rfl rfl rfl rfl ?_
      refine ev_getR zo_30_58 zf_30_9 (by decide) rfl rfl rfl rfl ?_
      refine ev_iload_n zo_30_61 rfl rfl rfl ?_
      refine ev_aload_n zo_30_62 rfl rfl rfl rfl ?_
      refine ev_iload_n zo_30_63 rfl rfl rfl ?_
      obtain ⟨c8, h⟩ := zz_chk h
      obtain ⟨q9, hq9, h⟩ := zz_bd h
      refine ev_cV (as := [.int l3]) (lsn := [.ref l1, .int l3]) (by omega) zo_30_64 zl_30_32 (by rw [zm_72]; rfl) (by rw [zm_72]; exact c8) (by rw [zm_72]; decide) (by unfold zzIn; rw [zm_72]; rfl) (by rw [zm_72]; exact Nat.le_of_ble_eq_true rfl) (Nat.le_of_ble_eq_true rfl) (G_X4_item (by omega) l1 l3 J q9 hq9) rfl ?_
      show zzEv _ _ _ _ [.int q9.1, .int l3, .ref 34] _ _
      obtain ⟨q10, hq10, h⟩ := zz_bd h
      refine ev_cS (as := [.int q9.1, .int l3, .ref 34]) (lsn := [.ref 34, .int l3, .int q9.1]) (by omega) zo_30_67 zl_30_36 (by decide) (by rw [zm_126]; rfl) (by unfold zzIn; rw [zm_126]; rfl) (by rw [zm_126]; exact Nat.le_of_ble_eq_true rfl) (Nat.le_of_ble_eq_true rfl) (G_X6_put (by omega) 34 l3 q9.1 q9.2 q10 hq10) rfl ?_
      show zzEv _ _ _ _ [] _ _
      refine ev_aload_n zo_30_70 rfl rfl rfl rfl ?_
      refine ev_getR zo_30_71 zf_30_15 (by decide) rfl rfl rfl rfl ?_
      refine ev_iload_n zo_30_74 rfl rfl rfl ?_
      refine ev_aload_n zo_30_75 rfl rfl rfl rfl ?_
      refine ev_aload_n zo_30_76 rfl rfl rfl rfl ?_
      refine ev_getI zo_30_77 zf_30_31 (by decide) (Or.inl rfl) rfl rfl ?_
      refine ev_iload_n zo_30_80 rfl rfl rfl ?_
      refine ev_iadd zo_30_81 rfl ?_
      obtain ⟨q11, hq11, h⟩ := zz_bd h
      refine ev_cV (as := [.int ((q10.2 33 3) + l3)]) (lsn := [.ref l1, .int ((q10.2 33 3) + l3)]) (by omega) zo_30_82 zl_30_32 (by rw [zm_72]; rfl) (by rw [zm_72]; exact c8) (by rw [zm_72]; decide) (by unfold zzIn; rw [zm_72]; rfl) (by rw [zm_72]; exact Nat.le_of_ble_eq_true rfl) (Nat.le_of_ble_eq_true rfl) (G_X4_item (by omega) l1 ((q10.2 33 3) + l3) q10 q11 hq11) rfl ?_
      show zzEv _ _ _ _ [.int q11.1, .int l3, .ref 35] _ _
      obtain ⟨q12, hq12, h⟩ := zz_bd h
      refine ev_cS (as := [.int q11.1, .int l3, .ref 35]) (lsn := [.ref 35, .int l3, .int q11.1]) (by omega) zo_30_85 zl_30_36 (by decide) (by rw [zm_126]; rfl) (by unfold zzIn; rw [zm_126]; rfl) (by rw [zm_126]; exact Nat.le_of_ble_eq_true rfl) (Nat.le_of_ble_eq_true rfl) (G_X6_put (by omega) 35 l3 q11.1 q11.2 q12 hq12) rfl ?_
      show zzEv _ _ _ _ [] _ _
      refine ev_iinc (v := 1) zo_30_88 rfl (by decide) (zz_set rfl (by decide) (Nat.le_of_ble_eq_true rfl)) rfl ?_
      show zzEv _ _ _ [.ref 33, .ref l1, .ref l2, .int (l3 + 1)] _ _ _
      refine ev_goto (t := 49) zo_30_91 rfl ?_
      exact ih l1 l2 (l3 + 1) q12 r h
    rw [if_neg c1] at h
    refine ev_cmp_t (t := 94) zo_30_54 rfl (zcm_ge c1) ?_
    refine ev_aload_n zo_30_94 rfl rfl rfl rfl ?_
    refine ev_aload_n zo_30_95 rfl rfl rfl rfl ?_
    refine ev_getR zo_30_96 zf_30_9 (by decide) rfl rfl rfl rfl ?_
    obtain ⟨q2, hq2, h⟩ := zz_bd h
    refine ev_cV (as := [.ref 34]) (lsn := [.ref 33, .ref 34, zzU, zzU]) (by omega) zo_30_99 zl_30_40 (by rw [zm_31]; rfl) (by rw [zm_31]; exact rfl) (by rw [zm_31]; decide) (by unfold zzIn; rw [zm_31]; rfl) (by rw [zm_31]; exact Nat.le_of_ble_eq_true rfl) (Nat.le_of_ble_eq_true rfl) (G_X1_isUnlike (by omega) 34 J q2 hq2) rfl ?_
    show zzEv _ _ _ _ [.int q2.1] _ _
    by_cases c3 : q2.1 = (0 : Int32)
    · rw [if_pos c3] at h
      refine ev_if_t (t := 128) zo_30_102 rfl (zcm_eq c3) ?_
      refine ev_iconst (x := 0) zo_30_128 (by decide) rfl ?_
      obtain rfl := Option.some.inj h
      exact ev_retZ zo_30_129 zr_30 (Or.inl rfl)
    rw [if_neg c3] at h
    refine ev_if_f (t := 128) zo_30_102 rfl (zcm_neq c3) rfl ?_
    refine ev_aload_n zo_30_105 rfl rfl rfl rfl ?_
    refine ev_aload_n zo_30_106 rfl rfl rfl rfl ?_
    refine ev_getR zo_30_107 zf_30_15 (by decide) rfl rfl rfl rfl ?_
    obtain ⟨q4, hq4, h⟩ := zz_bd h
    refine ev_cV (as := [.ref 35]) (lsn := [.ref 33, .ref 35, zzU, zzU]) (by omega) zo_30_110 zl_30_40 (by rw [zm_31]; rfl) (by rw [zm_31]; exact rfl) (by rw [zm_31]; decide) (by unfold zzIn; rw [zm_31]; rfl) (by rw [zm_31]; exact Nat.le_of_ble_eq_true rfl) (Nat.le_of_ble_eq_true rfl) (G_X1_isUnlike (by omega) 35 q2.2 q4 hq4) rfl ?_
    show zzEv _ _ _ _ [.int q4.1] _ _
    by_cases c5 : q4.1 = (0 : Int32)
    · rw [if_pos c5] at h
      refine ev_if_t (t := 128) zo_30_113 rfl (zcm_eq c5) ?_
      refine ev_iconst (x := 0) zo_30_128 (by decide) rfl ?_
      obtain rfl := Option.some.inj h
      exact ev_retZ zo_30_129 zr_30 (Or.inl rfl)
    rw [if_neg c5] at h
    refine ev_if_f (t := 128) zo_30_113 rfl (zcm_neq c5) rfl ?_
    refine ev_aload_n zo_30_116 rfl rfl rfl rfl ?_
    refine ev_aload_n zo_30_117 rfl rfl rfl rfl ?_
    obtain ⟨q6, hq6, h⟩ := zz_bd h
    refine ev_cV (as := [.ref l2]) (lsn := [.ref 33, .ref l2, zzU, zzU, zzU]) (by omega) zo_30_118 zl_30_44 (by rw [zm_32]; rfl) (by rw [zm_32]; exact rfl) (by rw [zm_32]; decide) (by unfold zzIn; rw [zm_32]; rfl) (by rw [zm_32]; exact Nat.le_of_ble_eq_true rfl) (Nat.le_of_ble_eq_true rfl) (G_X1_isAllThere (by omega) l2 q4.2 q6 hq6) rfl ?_
    show zzEv _ _ _ _ [.int q6.1] _ _
    by_cases c7 : q6.1 = (0 : Int32)
    · rw [if_pos c7] at h
      refine ev_if_t (t := 128) zo_30_121 rfl (zcm_eq c7) ?_
      refine ev_iconst (x := 0) zo_30_128 (by decide) rfl ?_
      obtain rfl := Option.some.inj h
      exact ev_retZ zo_30_129 zr_30 (Or.inl rfl)
    rw [if_neg c7] at h
    refine ev_if_f (t := 128) zo_30_121 rfl (zcm_neq c7) rfl ?_
    refine ev_iconst (x := 1) zo_30_124 (by decide) rfl ?_
    refine ev_goto (t := 129) zo_30_125 rfl ?_
    obtain rfl := Option.some.inj h
    exact ev_retZ zo_30_129 zr_30 (Or.inr rfl)
def F_X1_takes (x1 : Nat) (x2 : Nat) (J : zzJ) : Option (Int32 × zzJ) := (if zKd x1 = 4 then (Option.bind (F_X4_isMissing x1 J) fun q14 => (if q14.1 = (0 : Int32) then (if (zRem (q14.2.2 x1 1) (2 : Int32)) = (0 : Int32) then (if ((wI q14.2 33 3 ((q14.2.2 x1 1) / (2 : Int32))).2 33 3) < (1 : Int32) then some ((0 : Int32), (wI q14.2 33 3 ((q14.2.2 x1 1) / (2 : Int32)))) else (if (6 : Int32) < ((wI q14.2 33 3 ((q14.2.2 x1 1) / (2 : Int32))).2 33 3) then some ((0 : Int32), (wI q14.2 33 3 ((q14.2.2 x1 1) / (2 : Int32)))) else F_X1_takes_49 4096 x1 x2 (0 : Int32) (wI q14.2 33 3 ((q14.2.2 x1 1) / (2 : Int32))))) else some ((0 : Int32), q14.2)) else some ((0 : Int32), q14.2))) else none)
set_option maxRecDepth 100000 in
set_option maxHeartbeats 2000000 in
theorem G_X1_takes {d : Nat} (hd : 3 ≤ d) (x1 : Nat) (x2 : Nat) (J : zzJ) (r : Int32 × zzJ) (h : F_X1_takes x1 x2 J = some r) : zzEv d 30 0 [.ref 33, .ref x1, .ref x2, zzU] [] (zK J) (some (.int r.1), zK r.2) := by
  unfold F_X1_takes at h
  refine ev_aload_n zo_30_0 rfl rfl rfl rfl ?_
  obtain ⟨c13, h⟩ := zz_chk h
  obtain ⟨q14, hq14, h⟩ := zz_bd h
  refine ev_cV (as := []) (lsn := [.ref x1]) (by omega) zo_30_1 zl_30_21 (by rw [zm_69]; rfl) (by rw [zm_69]; exact c13) (by rw [zm_69]; decide) (by unfold zzIn; rw [zm_69]; rfl) (by rw [zm_69]; exact Nat.le_of_ble_eq_true rfl) (Nat.le_of_ble_eq_true rfl) (G_X4_isMissing (by omega) x1 J q14 hq14) rfl ?_
  show zzEv _ _ _ _ [.int q14.1] _ _
  by_cases c15 : q14.1 = (0 : Int32)
  · rw [if_pos c15] at h
    refine ev_if_f (t := 16) zo_30_4 rfl (zcm_nne c15) rfl ?_
    refine ev_aload_n zo_30_7 rfl rfl rfl rfl ?_
    refine ev_getI zo_30_8 zf_30_27 (by decide) (Or.inl rfl) c13 rfl ?_
    refine ev_iconst (x := 2) zo_30_11 (by decide) rfl ?_
    refine ev_irem zo_30_12 (by decide) rfl ?_
    by_cases c16 : (zRem (q14.2.2 x1 1) (2 : Int32)) = (0 : Int32)
    · rw [if_pos c16] at h
      refine ev_if_t (t := 18) zo_30_13 rfl (zcm_eq c16) ?_
      refine ev_aload_n zo_30_18 rfl rfl rfl rfl ?_
      refine ev_aload_n zo_30_19 rfl rfl rfl rfl ?_
      refine ev_getI zo_30_20 zf_30_27 (by decide) (Or.inl rfl) c13 rfl ?_
      refine ev_iconst (x := 2) zo_30_23 (by decide) rfl ?_
      refine ev_idiv zo_30_24 (by decide) rfl ?_
      refine ev_putI zo_30_25 zf_30_31 (by decide) rfl rfl rfl rfl ?_
      refine ev_aload_n zo_30_28 rfl rfl rfl rfl ?_
      refine ev_getI zo_30_29 zf_30_31 (by decide) (Or.inl rfl) rfl rfl ?_
      refine ev_iconst (x := 1) zo_30_32 (by decide) rfl ?_
      by_cases c17 : ((wI q14.2 33 3 ((q14.2.2 x1 1) / (2 : Int32))).2 33 3) < (1 : Int32)
      · rw [if_pos c17] at h
        refine ev_cmp_t (t := 45) zo_30_33 rfl (zcm_lt c17) ?_
        refine ev_iconst (x := 0) zo_30_45 (by decide) rfl ?_
        obtain rfl := Option.some.inj h
        exact ev_retZ zo_30_46 zr_30 (Or.inl rfl)
      rw [if_neg c17] at h
      refine ev_cmp_f (t := 45) zo_30_33 rfl (zcm_nlt c17) rfl ?_
      refine ev_aload_n zo_30_36 rfl rfl rfl rfl ?_
      refine ev_getI zo_30_37 zf_30_31 (by decide) (Or.inl rfl) rfl rfl ?_
      refine ev_bipush (x := 6) zo_30_40 (by decide) rfl ?_
      by_cases c18 : (6 : Int32) < ((wI q14.2 33 3 ((q14.2.2 x1 1) / (2 : Int32))).2 33 3)
      · rw [if_pos c18] at h
        refine ev_cmp_f (t := 47) zo_30_42 rfl (zcm_nle c18) rfl ?_
        refine ev_iconst (x := 0) zo_30_45 (by decide) rfl ?_
        obtain rfl := Option.some.inj h
        exact ev_retZ zo_30_46 zr_30 (Or.inl rfl)
      rw [if_neg c18] at h
      refine ev_cmp_t (t := 47) zo_30_42 rfl (zcm_le c18) ?_
      refine ev_iconst (x := 0) zo_30_47 (by decide) rfl ?_
      refine ev_istore_n zo_30_48 rfl (zz_set rfl (by decide) (Nat.le_of_ble_eq_true rfl)) rfl ?_
      show zzEv _ _ _ [.ref 33, .ref x1, .ref x2, .int (0 : Int32)] _ _ _
      exact G_X1_takes_49 hd 4096 x1 x2 (0 : Int32) (wI q14.2 33 3 ((q14.2.2 x1 1) / (2 : Int32))) r h
    rw [if_neg c16] at h
    refine ev_if_f (t := 18) zo_30_13 rfl (zcm_neq c16) rfl ?_
    refine ev_iconst (x := 0) zo_30_16 (by decide) rfl ?_
    obtain rfl := Option.some.inj h
    exact ev_retZ zo_30_17 zr_30 (Or.inl rfl)
  rw [if_neg c15] at h
  refine ev_if_t (t := 16) zo_30_4 rfl (zcm_ne c15) ?_
  refine ev_iconst (x := 0) zo_30_16 (by decide) rfl ?_
  obtain rfl := Option.some.inj h
  exact ev_retZ zo_30_17 zr_30 (Or.inl rfl)
/-! X1_seatAll -/
def F_X1_seatAll_31 : Nat → Nat → Int32 → zzJ → Option (zzJ)
  | 0, _, _, _ => none
  | n + 1, l1, l2, J => (if l2 < (J.2 33 3) then (Option.bind (F_X6_itemAt 36 l2 J) fun q2 => (Option.bind (F_X6_itemAt 34 q2.1 q2.2) fun q3 => (Option.bind (F_X6_itemAt 35 l2 q3.2) fun q4 => (if zKd l1 = 0 then (Option.bind (F_X0_move l1 q3.1 q4.1 q4.2) fun q6 => F_X1_seatAll_31 n l1 (l2 + 1) q6) else none)))) else some J)
set_option maxRecDepth 100000 in
set_option maxHeartbeats 2000000 in
theorem G_X1_seatAll_31 {d : Nat} (hd : 2 ≤ d) : ∀ (n : Nat) (l1 : Nat) (l2 : Int32) (J : zzJ) (r : zzJ), F_X1_seatAll_31 n l1 l2 J = some r → zzEv d 35 31 [.ref 33, .ref l1, .int l2] [] (zK J) (none, zK r) := by
  intro n
  induction n with
  | zero => intro l1 l2 J r h; simp [F_X1_seatAll_31] at h
  | succ n ih =>
    intro l1 l2 J r h
    rw [F_X1_seatAll_31] at h
    refine ev_iload_n zo_35_31 rfl rfl rfl ?_
    refine ev_aload_n zo_35_32 rfl rfl rfl rfl ?_
    refine ev_getI zo_35_33 zf_35_31 (by decide) (Or.inl rfl) rfl rfl ?_
    by_cases c1 : l2 < (J.2 33 3)
    · rw [if_pos c1] at h
      refine ev_cmp_f (t := 72) zo_35_36 rfl (zcm_nge c1) rfl ?_
      refine ev_aload_n zo_35_39 rfl rfl rfl rfl ?_
      refine ev_aload_n zo_35_40 rfl rfl rfl rfl ?_
      refine ev_getR zo_35_41 zf_35_9 (by decide) rfl rfl rfl rfl ?_
      refine ev_aload_n zo_35_44 rfl rfl rfl rfl ?_
      refine ev_getR zo_35_45 zf_35_18 (by decide) rfl rfl rfl rfl ?_
      refine ev_iload_n zo_35_48 rfl rfl rfl ?_
      obtain ⟨q2, hq2, h⟩ := zz_bd h
      refine ev_cS (as := [.int l2, .ref 36]) (lsn := [.ref 36, .int l2]) (by omega) zo_35_49 zl_35_48 (by decide) (by rw [zm_125]; rfl) (by unfold zzIn; rw [zm_125]; rfl) (by rw [zm_125]; exact Nat.le_of_ble_eq_true rfl) (Nat.le_of_ble_eq_true rfl) (G_X6_itemAt (by omega) 36 l2 J q2 hq2) rfl ?_
      show zzEv _ _ _ _ [.int q2.1, .ref 34, .ref l1] _ _
      obtain ⟨q3, hq3, h⟩ := zz_bd h
      refine ev_cS (as := [.int q2.1, .ref 34]) (lsn := [.ref 34, .int q2.1]) (by omega) zo_35_52 zl_35_48 (by decide) (by rw [zm_125]; rfl) (by unfold zzIn; rw [zm_125]; rfl) (by rw [zm_125]; exact Nat.le_of_ble_eq_true rfl) (Nat.le_of_ble_eq_true rfl) (G_X6_itemAt (by omega) 34 q2.1 q2.2 q3 hq3) rfl ?_
      show zzEv _ _ _ _ [.int q3.1, .ref l1] _ _
      refine ev_aload_n zo_35_55 rfl rfl rfl rfl ?_
      refine ev_getR zo_35_56 zf_35_15 (by decide) rfl rfl rfl rfl ?_
      refine ev_iload_n zo_35_59 rfl rfl rfl ?_
      obtain ⟨q4, hq4, h⟩ := zz_bd h
      refine ev_cS (as := [.int l2, .ref 35]) (lsn := [.ref 35, .int l2]) (by omega) zo_35_60 zl_35_48 (by decide) (by rw [zm_125]; rfl) (by unfold zzIn; rw [zm_125]; rfl) (by rw [zm_125]; exact Nat.le_of_ble_eq_true rfl) (Nat.le_of_ble_eq_true rfl) (G_X6_itemAt (by omega) 35 l2 q3.2 q4 hq4) rfl ?_
      show zzEv _ _ _ _ [.int q4.1, .int q3.1, .ref l1] _ _
      obtain ⟨c5, h⟩ := zz_chk h
      obtain ⟨q6, hq6, h⟩ := zz_bd h
      refine ev_cV (as := [.int q4.1, .int q3.1]) (lsn := [.ref l1, .int q3.1, .int q4.1]) (by omega) zo_35_63 zl_35_84 (by rw [zm_11]; rfl) (by rw [zm_11]; exact c5) (by rw [zm_11]; decide) (by unfold zzIn; rw [zm_11]; rfl) (by rw [zm_11]; exact Nat.le_of_ble_eq_true rfl) (Nat.le_of_ble_eq_true rfl) (G_X0_move (by omega) l1 q3.1 q4.1 q4.2 q6 hq6) rfl ?_
      show zzEv _ _ _ _ [] _ _
      refine ev_iinc (v := 1) zo_35_66 rfl (by decide) (zz_set rfl (by decide) (Nat.le_of_ble_eq_true rfl)) rfl ?_
      show zzEv _ _ _ [.ref 33, .ref l1, .int (l2 + 1)] _ _ _
      refine ev_goto (t := 31) zo_35_69 rfl ?_
      exact ih l1 (l2 + 1) q6 r h
    rw [if_neg c1] at h
    refine ev_cmp_t (t := 72) zo_35_36 rfl (zcm_ge c1) ?_
    obtain rfl := Option.some.inj h
    exact ev_retV zo_35_72 zr_35
def F_X1_seatAll_2 : Nat → Nat → Int32 → zzJ → Option (zzJ)
  | 0, _, _, _ => none
  | n + 1, l1, l2, J => (if l2 < (J.2 33 3) then (Option.bind (F_X6_itemAt 34 l2 J) fun q8 => (if zKd l1 = 0 then (Option.bind (F_X0_move l1 q8.1 (-1 : Int32) q8.2) fun q10 => F_X1_seatAll_2 n l1 (l2 + 1) q10) else none)) else F_X1_seatAll_31 4096 l1 (0 : Int32) J)
set_option maxRecDepth 100000 in
set_option maxHeartbeats 2000000 in
theorem G_X1_seatAll_2 {d : Nat} (hd : 2 ≤ d) : ∀ (n : Nat) (l1 : Nat) (l2 : Int32) (J : zzJ) (r : zzJ), F_X1_seatAll_2 n l1 l2 J = some r → zzEv d 35 2 [.ref 33, .ref l1, .int l2] [] (zK J) (none, zK r) := by
  intro n
  induction n with
  | zero => intro l1 l2 J r h; simp [F_X1_seatAll_2] at h
  | succ n ih =>
    intro l1 l2 J r h
    rw [F_X1_seatAll_2] at h
    refine ev_iload_n zo_35_2 rfl rfl rfl ?_
    refine ev_aload_n zo_35_3 rfl rfl rfl rfl ?_
    refine ev_getI zo_35_4 zf_35_31 (by decide) (Or.inl rfl) rfl rfl ?_
    by_cases c7 : l2 < (J.2 33 3)
    · rw [if_pos c7] at h
      refine ev_cmp_f (t := 29) zo_35_7 rfl (zcm_nge c7) rfl ?_
      refine ev_aload_n zo_35_10 rfl rfl rfl rfl ?_
      refine ev_aload_n zo_35_11 rfl rfl rfl rfl ?_
      refine ev_getR zo_35_12 zf_35_9 (by decide) rfl rfl rfl rfl ?_
      refine ev_iload_n zo_35_15 rfl rfl rfl ?_
      obtain ⟨q8, hq8, h⟩ := zz_bd h
      refine ev_cS (as := [.int l2, .ref 34]) (lsn := [.ref 34, .int l2]) (by omega) zo_35_16 zl_35_48 (by decide) (by rw [zm_125]; rfl) (by unfold zzIn; rw [zm_125]; rfl) (by rw [zm_125]; exact Nat.le_of_ble_eq_true rfl) (Nat.le_of_ble_eq_true rfl) (G_X6_itemAt (by omega) 34 l2 J q8 hq8) rfl ?_
      show zzEv _ _ _ _ [.int q8.1, .ref l1] _ _
      refine ev_iconst (x := (-1)) zo_35_19 (by decide) rfl ?_
      obtain ⟨c9, h⟩ := zz_chk h
      obtain ⟨q10, hq10, h⟩ := zz_bd h
      refine ev_cV (as := [.int (-1 : Int32), .int q8.1]) (lsn := [.ref l1, .int q8.1, .int (-1 : Int32)]) (by omega) zo_35_20 zl_35_84 (by rw [zm_11]; rfl) (by rw [zm_11]; exact c9) (by rw [zm_11]; decide) (by unfold zzIn; rw [zm_11]; rfl) (by rw [zm_11]; exact Nat.le_of_ble_eq_true rfl) (Nat.le_of_ble_eq_true rfl) (G_X0_move (by omega) l1 q8.1 (-1 : Int32) q8.2 q10 hq10) rfl ?_
      show zzEv _ _ _ _ [] _ _
      refine ev_iinc (v := 1) zo_35_23 rfl (by decide) (zz_set rfl (by decide) (Nat.le_of_ble_eq_true rfl)) rfl ?_
      show zzEv _ _ _ [.ref 33, .ref l1, .int (l2 + 1)] _ _ _
      refine ev_goto (t := 2) zo_35_26 rfl ?_
      exact ih l1 (l2 + 1) q10 r h
    rw [if_neg c7] at h
    refine ev_cmp_t (t := 29) zo_35_7 rfl (zcm_ge c7) ?_
    refine ev_iconst (x := 0) zo_35_29 (by decide) rfl ?_
    refine ev_istore_n zo_35_30 rfl (zz_set rfl (by decide) (Nat.le_of_ble_eq_true rfl)) rfl ?_
    show zzEv _ _ _ [.ref 33, .ref l1, .int (0 : Int32)] _ _ _
    exact G_X1_seatAll_31 hd 4096 l1 (0 : Int32) J r h
def F_X1_seatAll (x1 : Nat) (J : zzJ) : Option (zzJ) := F_X1_seatAll_2 4096 x1 (0 : Int32) J
set_option maxRecDepth 100000 in
set_option maxHeartbeats 2000000 in
theorem G_X1_seatAll {d : Nat} (hd : 2 ≤ d) (x1 : Nat) (J : zzJ) (r : zzJ) (h : F_X1_seatAll x1 J = some r) : zzEv d 35 0 [.ref 33, .ref x1, zzU] [] (zK J) (none, zK r) := by
  unfold F_X1_seatAll at h
  refine ev_iconst (x := 0) zo_35_0 (by decide) rfl ?_
  refine ev_istore_n zo_35_1 rfl (zz_set rfl (by decide) (Nat.le_of_ble_eq_true rfl)) rfl ?_
  show zzEv _ _ _ [.ref 33, .ref x1, .int (0 : Int32)] _ _ _
  exact G_X1_seatAll_2 hd 4096 x1 (0 : Int32) J r h
/-! X1_digits -/
def F_X1_digits_4 : Nat → Int32 → Int32 → zzJ → Option (Int32 × zzJ)
  | 0, _, _, _ => none
  | n + 1, l1, l2, J => (if l2 < (J.2 33 3) then (Option.bind (F_X6_itemAt 36 l2 J) fun q2 => F_X1_digits_4 n (((l1 * (10 : Int32)) + q2.1) + (1 : Int32)) (l2 + 1) q2.2) else some (l1, J))
set_option maxRecDepth 100000 in
set_option maxHeartbeats 2000000 in
theorem G_X1_digits_4 {d : Nat} (hd : 1 ≤ d) : ∀ (n : Nat) (l1 : Int32) (l2 : Int32) (J : zzJ) (r : Int32 × zzJ), F_X1_digits_4 n l1 l2 J = some r → zzEv d 36 4 [.ref 33, .int l1, .int l2] [] (zK J) (some (.int r.1), zK r.2) := by
  intro n
  induction n with
  | zero => intro l1 l2 J r h; simp [F_X1_digits_4] at h
  | succ n ih =>
    intro l1 l2 J r h
    rw [F_X1_digits_4] at h
    refine ev_iload_n zo_36_4 rfl rfl rfl ?_
    refine ev_aload_n zo_36_5 rfl rfl rfl rfl ?_
    refine ev_getI zo_36_6 zf_36_31 (by decide) (Or.inl rfl) rfl rfl ?_
    by_cases c1 : l2 < (J.2 33 3)
    · rw [if_pos c1] at h
      refine ev_cmp_f (t := 34) zo_36_9 rfl (zcm_nge c1) rfl ?_
      refine ev_iload_n zo_36_12 rfl rfl rfl ?_
      refine ev_bipush (x := 10) zo_36_13 (by decide) rfl ?_
      refine ev_imul zo_36_15 rfl ?_
      refine ev_aload_n zo_36_16 rfl rfl rfl rfl ?_
      refine ev_getR zo_36_17 zf_36_18 (by decide) rfl rfl rfl rfl ?_
      refine ev_iload_n zo_36_20 rfl rfl rfl ?_
      obtain ⟨q2, hq2, h⟩ := zz_bd h
      refine ev_cS (as := [.int l2, .ref 36]) (lsn := [.ref 36, .int l2]) (by omega) zo_36_21 zl_36_48 (by decide) (by rw [zm_125]; rfl) (by unfold zzIn; rw [zm_125]; rfl) (by rw [zm_125]; exact Nat.le_of_ble_eq_true rfl) (Nat.le_of_ble_eq_true rfl) (G_X6_itemAt (by omega) 36 l2 J q2 hq2) rfl ?_
      show zzEv _ _ _ _ [.int q2.1, .int (l1 * (10 : Int32))] _ _
      refine ev_iadd zo_36_24 rfl ?_
      refine ev_iconst (x := 1) zo_36_25 (by decide) rfl ?_
      refine ev_iadd zo_36_26 rfl ?_
      refine ev_istore_n zo_36_27 rfl (zz_set rfl (by decide) (Nat.le_of_ble_eq_true rfl)) rfl ?_
      show zzEv _ _ _ [.ref 33, .int (((l1 * (10 : Int32)) + q2.1) + (1 : Int32)), .int l2] _ _ _
      refine ev_iinc (v := 1) zo_36_28 rfl (by decide) (zz_set rfl (by decide) (Nat.le_of_ble_eq_true rfl)) rfl ?_
      show zzEv _ _ _ [.ref 33, .int (((l1 * (10 : Int32)) + q2.1) + (1 : Int32)), .int (l2 + 1)] _ _ _
      refine ev_goto (t := 4) zo_36_31 rfl ?_
      exact ih (((l1 * (10 : Int32)) + q2.1) + (1 : Int32)) (l2 + 1) q2.2 r h
    rw [if_neg c1] at h
    refine ev_cmp_t (t := 34) zo_36_9 rfl (zcm_ge c1) ?_
    refine ev_iload_n zo_36_34 rfl rfl rfl ?_
    obtain rfl := Option.some.inj h
    exact ev_retI zo_36_35 zr_36
def F_X1_digits (J : zzJ) : Option (Int32 × zzJ) := F_X1_digits_4 4096 (0 : Int32) (0 : Int32) J
set_option maxRecDepth 100000 in
set_option maxHeartbeats 2000000 in
theorem G_X1_digits {d : Nat} (hd : 1 ≤ d) (J : zzJ) (r : Int32 × zzJ) (h : F_X1_digits J = some r) : zzEv d 36 0 [.ref 33, zzU, zzU] [] (zK J) (some (.int r.1), zK r.2) := by
  unfold F_X1_digits at h
  refine ev_iconst (x := 0) zo_36_0 (by decide) rfl ?_
  refine ev_istore_n zo_36_1 rfl (zz_set rfl (by decide) (Nat.le_of_ble_eq_true rfl)) rfl ?_
  show zzEv _ _ _ [.ref 33, .int (0 : Int32), zzU] _ _ _
  refine ev_iconst (x := 0) zo_36_2 (by decide) rfl ?_
  refine ev_istore_n zo_36_3 rfl (zz_set rfl (by decide) (Nat.le_of_ble_eq_true rfl)) rfl ?_
  show zzEv _ _ _ [.ref 33, .int (0 : Int32), .int (0 : Int32)] _ _ _
  exact G_X1_digits_4 hd 4096 (0 : Int32) (0 : Int32) J r h
/-! X1_swapPlaces -/
def F_X1_swapPlaces (x1 : Int32) (x2 : Int32) (J : zzJ) : Option (zzJ) := (Option.bind (F_X6_itemAt 36 x1 J) fun q1 => (Option.bind (F_X6_itemAt 36 x2 q1.2) fun q2 => (Option.bind (F_X6_put 36 x1 q2.1 q2.2) fun q3 => (Option.bind (F_X6_put 36 x2 q1.1 q3) fun q4 => some q4))))
set_option maxRecDepth 100000 in
set_option maxHeartbeats 2000000 in
theorem G_X1_swapPlaces {d : Nat} (hd : 1 ≤ d) (x1 : Int32) (x2 : Int32) (J : zzJ) (r : zzJ) (h : F_X1_swapPlaces x1 x2 J = some r) : zzEv d 38 0 [.ref 33, .int x1, .int x2, zzU] [] (zK J) (none, zK r) := by
  unfold F_X1_swapPlaces at h
  refine ev_aload_n zo_38_0 rfl rfl rfl rfl ?_
  refine ev_getR zo_38_1 zf_38_18 (by decide) rfl rfl rfl rfl ?_
  refine ev_iload_n zo_38_4 rfl rfl rfl ?_
  obtain ⟨q1, hq1, h⟩ := zz_bd h
  refine ev_cS (as := [.int x1, .ref 36]) (lsn := [.ref 36, .int x1]) (by omega) zo_38_5 zl_38_48 (by decide) (by rw [zm_125]; rfl) (by unfold zzIn; rw [zm_125]; rfl) (by rw [zm_125]; exact Nat.le_of_ble_eq_true rfl) (Nat.le_of_ble_eq_true rfl) (G_X6_itemAt (by omega) 36 x1 J q1 hq1) rfl ?_
  show zzEv _ _ _ _ [.int q1.1] _ _
  refine ev_istore_n zo_38_8 rfl (zz_set rfl (by decide) (Nat.le_of_ble_eq_true rfl)) rfl ?_
  show zzEv _ _ _ [.ref 33, .int x1, .int x2, .int q1.1] _ _ _
  refine ev_aload_n zo_38_9 rfl rfl rfl rfl ?_
  refine ev_getR zo_38_10 zf_38_18 (by decide) rfl rfl rfl rfl ?_
  refine ev_iload_n zo_38_13 rfl rfl rfl ?_
  refine ev_aload_n zo_38_14 rfl rfl rfl rfl ?_
  refine ev_getR zo_38_15 zf_38_18 (by decide) rfl rfl rfl rfl ?_
  refine ev_iload_n zo_38_18 rfl rfl rfl ?_
  obtain ⟨q2, hq2, h⟩ := zz_bd h
  refine ev_cS (as := [.int x2, .ref 36]) (lsn := [.ref 36, .int x2]) (by omega) zo_38_19 zl_38_48 (by decide) (by rw [zm_125]; rfl) (by unfold zzIn; rw [zm_125]; rfl) (by rw [zm_125]; exact Nat.le_of_ble_eq_true rfl) (Nat.le_of_ble_eq_true rfl) (G_X6_itemAt (by omega) 36 x2 q1.2 q2 hq2) rfl ?_
  show zzEv _ _ _ _ [.int q2.1, .int x1, .ref 36] _ _
  obtain ⟨q3, hq3, h⟩ := zz_bd h
  refine ev_cS (as := [.int q2.1, .int x1, .ref 36]) (lsn := [.ref 36, .int x1, .int q2.1]) (by omega) zo_38_22 zl_38_36 (by decide) (by rw [zm_126]; rfl) (by unfold zzIn; rw [zm_126]; rfl) (by rw [zm_126]; exact Nat.le_of_ble_eq_true rfl) (Nat.le_of_ble_eq_true rfl) (G_X6_put (by omega) 36 x1 q2.1 q2.2 q3 hq3) rfl ?_
  show zzEv _ _ _ _ [] _ _
  refine ev_aload_n zo_38_25 rfl rfl rfl rfl ?_
  refine ev_getR zo_38_26 zf_38_18 (by decide) rfl rfl rfl rfl ?_
  refine ev_iload_n zo_38_29 rfl rfl rfl ?_
  refine ev_iload_n zo_38_30 rfl rfl rfl ?_
  obtain ⟨q4, hq4, h⟩ := zz_bd h
  refine ev_cS (as := [.int q1.1, .int x2, .ref 36]) (lsn := [.ref 36, .int x2, .int q1.1]) (by omega) zo_38_31 zl_38_36 (by decide) (by rw [zm_126]; rfl) (by unfold zzIn; rw [zm_126]; rfl) (by rw [zm_126]; exact Nat.le_of_ble_eq_true rfl) (Nat.le_of_ble_eq_true rfl) (G_X6_put (by omega) 36 x2 q1.1 q3 q4 hq4) rfl ?_
  show zzEv _ _ _ _ [] _ _
  obtain rfl := Option.some.inj h
  exact ev_retV zo_38_34 zr_38
/-! X1_nextOrder -/
def F_X1_nextOrder_99 : Nat → Int32 → Int32 → zzJ → Option (Int32 × zzJ)
  | 0, _, _, _ => none
  | n + 1, l3, l4, J => (if l3 < l4 then (Option.bind (F_X1_swapPlaces l3 l4 J) fun q2 => F_X1_nextOrder_99 n (l3 + 1) (l4 + (-1)) q2) else some ((1 : Int32), J))
set_option maxRecDepth 100000 in
set_option maxHeartbeats 2000000 in
theorem G_X1_nextOrder_99 {d : Nat} (hd : 2 ≤ d) : ∀ (n : Nat) (l3 : Int32) (l4 : Int32) (J : zzJ) (r : Int32 × zzJ), F_X1_nextOrder_99 n l3 l4 J = some r → ∀ (lv1 : Value) (hlv1 : lv1.category = 1), ∀ (lv2 : Value) (hlv2 : lv2.category = 1), zzEv d 37 99 [.ref 33, lv1, lv2, .int l3, .int l4] [] (zK J) (some (.int r.1), zK r.2) := by
  intro n
  induction n with
  | zero => intro l3 l4 J r h; simp [F_X1_nextOrder_99] at h
  | succ n ih =>
    intro l3 l4 J r h lv1 hlv1 lv2 hlv2
    rw [F_X1_nextOrder_99] at h
    refine ev_iload_n zo_37_99 rfl rfl rfl ?_
    refine ev_iload zo_37_100 rfl rfl ?_
    by_cases c1 : l3 < l4
    · rw [if_pos c1] at h
      refine ev_cmp_f (t := 121) zo_37_102 rfl (zcm_nge c1) rfl ?_
      refine ev_aload_n zo_37_105 rfl rfl rfl rfl ?_
      refine ev_iload_n zo_37_106 rfl rfl rfl ?_
      refine ev_iload zo_37_107 rfl rfl ?_
      obtain ⟨q2, hq2, h⟩ := zz_bd h
      refine ev_cV (as := [.int l4, .int l3]) (lsn := [.ref 33, .int l3, .int l4, zzU]) (by omega) zo_37_109 zl_37_88 (by rw [zm_38]; rfl) (by rw [zm_38]; exact rfl) (by rw [zm_38]; decide) (by unfold zzIn; rw [zm_38]; rfl) (by rw [zm_38]; exact Nat.le_of_ble_eq_true rfl) (Nat.le_of_ble_eq_true rfl) (G_X1_swapPlaces (by omega) l3 l4 J q2 hq2) rfl ?_
      show zzEv _ _ _ _ [] _ _
      refine ev_iinc (v := 1) zo_37_112 rfl (by decide) (zz_set (zz_lg (j := 2) rfl hlv2) (by decide) (Nat.le_of_ble_eq_true rfl)) rfl ?_
      show zzEv _ _ _ [.ref 33, lv1, lv2, .int (l3 + 1), .int l4] _ _ _
      refine ev_iinc (v := (-1)) zo_37_115 rfl (by decide) (zz_set rfl (by decide) (Nat.le_of_ble_eq_true rfl)) rfl ?_
      show zzEv _ _ _ [.ref 33, lv1, lv2, .int (l3 + 1), .int (l4 + (-1))] _ _ _
      refine ev_goto (t := 99) zo_37_118 rfl ?_
      exact ih (l3 + 1) (l4 + (-1)) q2 r h (lv1) hlv1 (lv2) hlv2
    rw [if_neg c1] at h
    refine ev_cmp_t (t := 121) zo_37_102 rfl (zcm_ge c1) ?_
    refine ev_iconst (x := 1) zo_37_121 (by decide) rfl ?_
    obtain rfl := Option.some.inj h
    exact ev_retZ zo_37_122 zr_37 (Or.inr rfl)
def F_X1_nextOrder_81 (l1 : Int32) (l2 : Int32) (J : zzJ) : Option (Int32 × zzJ) := (Option.bind (F_X1_swapPlaces l1 l2 J) fun q3 => F_X1_nextOrder_99 4096 (l1 + (1 : Int32)) ((q3.2 33 3) - (1 : Int32)) q3)
set_option maxRecDepth 100000 in
set_option maxHeartbeats 2000000 in
theorem G_X1_nextOrder_81 {d : Nat} (hd : 2 ≤ d) : ∀ (l1 : Int32) (l2 : Int32) (J : zzJ) (r : Int32 × zzJ), F_X1_nextOrder_81 l1 l2 J = some r → zzEv d 37 81 [.ref 33, .int l1, .int l2, zzU, zzU] [] (zK J) (some (.int r.1), zK r.2) := by
  intro l1 l2 J r h
  unfold F_X1_nextOrder_81 at h
  refine ev_aload_n zo_37_81 rfl rfl rfl rfl ?_
  refine ev_iload_n zo_37_82 rfl rfl rfl ?_
  refine ev_iload_n zo_37_83 rfl rfl rfl ?_
  obtain ⟨q3, hq3, h⟩ := zz_bd h
  refine ev_cV (as := [.int l2, .int l1]) (lsn := [.ref 33, .int l1, .int l2, zzU]) (by omega) zo_37_84 zl_37_88 (by rw [zm_38]; rfl) (by rw [zm_38]; exact rfl) (by rw [zm_38]; decide) (by unfold zzIn; rw [zm_38]; rfl) (by rw [zm_38]; exact Nat.le_of_ble_eq_true rfl) (Nat.le_of_ble_eq_true rfl) (G_X1_swapPlaces (by omega) l1 l2 J q3 hq3) rfl ?_
  show zzEv _ _ _ _ [] _ _
  refine ev_iload_n zo_37_87 rfl rfl rfl ?_
  refine ev_iconst (x := 1) zo_37_88 (by decide) rfl ?_
  refine ev_iadd zo_37_89 rfl ?_
  refine ev_istore_n zo_37_90 rfl (zz_set rfl (by decide) (Nat.le_of_ble_eq_true rfl)) rfl ?_
  show zzEv _ _ _ [.ref 33, .int l1, .int l2, .int (l1 + (1 : Int32)), zzU] _ _ _
  refine ev_aload_n zo_37_91 rfl rfl rfl rfl ?_
  refine ev_getI zo_37_92 zf_37_31 (by decide) (Or.inl rfl) rfl rfl ?_
  refine ev_iconst (x := 1) zo_37_95 (by decide) rfl ?_
  refine ev_isub zo_37_96 rfl ?_
  refine ev_istore zo_37_97 (zz_set rfl (by decide) (Nat.le_of_ble_eq_true rfl)) rfl ?_
  show zzEv _ _ _ [.ref 33, .int l1, .int l2, .int (l1 + (1 : Int32)), .int ((q3.2 33 3) - (1 : Int32))] _ _ _
  exact G_X1_nextOrder_99 hd 4096 (l1 + (1 : Int32)) ((q3.2 33 3) - (1 : Int32)) q3 r h (.int l1) rfl (.int l2) rfl
def F_X1_nextOrder_51 : Nat → Int32 → Int32 → zzJ → Option (Int32 × zzJ)
  | 0, _, _, _ => none
  | n + 1, l1, l2, J => (if l1 < l2 then (Option.bind (F_X6_itemAt 36 l2 J) fun q5 => (Option.bind (F_X6_itemAt 36 l1 q5.2) fun q6 => (if q5.1 < q6.1 then F_X1_nextOrder_51 n l1 (l2 + (-1)) q6.2 else F_X1_nextOrder_81 l1 l2 q6.2))) else F_X1_nextOrder_81 l1 l2 J)
set_option maxRecDepth 100000 in
set_option maxHeartbeats 2000000 in
theorem G_X1_nextOrder_51 {d : Nat} (hd : 2 ≤ d) : ∀ (n : Nat) (l1 : Int32) (l2 : Int32) (J : zzJ) (r : Int32 × zzJ), F_X1_nextOrder_51 n l1 l2 J = some r → zzEv d 37 51 [.ref 33, .int l1, .int l2, zzU, zzU] [] (zK J) (some (.int r.1), zK r.2) := by
  intro n
  induction n with
  | zero => intro l1 l2 J r h; simp [F_X1_nextOrder_51] at h
  | succ n ih =>
    intro l1 l2 J r h
    rw [F_X1_nextOrder_51] at h
    refine ev_iload_n zo_37_51 rfl rfl rfl ?_
    refine ev_iload_n zo_37_52 rfl rfl rfl ?_
    by_cases c4 : l1 < l2
    · rw [if_pos c4] at h
      refine ev_cmp_f (t := 81) zo_37_53 rfl (zcm_nle c4) rfl ?_
      refine ev_aload_n zo_37_56 rfl rfl rfl rfl ?_
      refine ev_getR zo_37_57 zf_37_18 (by decide) rfl rfl rfl rfl ?_
      refine ev_iload_n zo_37_60 rfl rfl rfl ?_
      obtain ⟨q5, hq5, h⟩ := zz_bd h
      refine ev_cS (as := [.int l2, .ref 36]) (lsn := [.ref 36, .int l2]) (by omega) zo_37_61 zl_37_48 (by decide) (by rw [zm_125]; rfl) (by unfold zzIn; rw [zm_125]; rfl) (by rw [zm_125]; exact Nat.le_of_ble_eq_true rfl) (Nat.le_of_ble_eq_true rfl) (G_X6_itemAt (by omega) 36 l2 J q5 hq5) rfl ?_
      show zzEv _ _ _ _ [.int q5.1] _ _
      refine ev_aload_n zo_37_64 rfl rfl rfl rfl ?_
      refine ev_getR zo_37_65 zf_37_18 (by decide) rfl rfl rfl rfl ?_
      refine ev_iload_n zo_37_68 rfl rfl rfl ?_
      obtain ⟨q6, hq6, h⟩ := zz_bd h
      refine ev_cS (as := [.int l1, .ref 36]) (lsn := [.ref 36, .int l1]) (by omega) zo_37_69 zl_37_48 (by decide) (by rw [zm_125]; rfl) (by unfold zzIn; rw [zm_125]; rfl) (by rw [zm_125]; exact Nat.le_of_ble_eq_true rfl) (Nat.le_of_ble_eq_true rfl) (G_X6_itemAt (by omega) 36 l1 q5.2 q6 hq6) rfl ?_
      show zzEv _ _ _ _ [.int q6.1, .int q5.1] _ _
      by_cases c7 : q5.1 < q6.1
      · rw [if_pos c7] at h
        refine ev_cmp_f (t := 81) zo_37_72 rfl (zcm_nge c7) rfl ?_
        refine ev_iinc (v := (-1)) zo_37_75 rfl (by decide) (zz_set rfl (by decide) (Nat.le_of_ble_eq_true rfl)) rfl ?_
        show zzEv _ _ _ [.ref 33, .int l1, .int (l2 + (-1)), zzU, zzU] _ _ _
        refine ev_goto (t := 51) zo_37_78 rfl ?_
        exact ih l1 (l2 + (-1)) q6.2 r h
      rw [if_neg c7] at h
      refine ev_cmp_t (t := 81) zo_37_72 rfl (zcm_ge c7) ?_
      exact G_X1_nextOrder_81 hd l1 l2 q6.2 r h
    rw [if_neg c4] at h
    refine ev_cmp_t (t := 81) zo_37_53 rfl (zcm_le c4) ?_
    exact G_X1_nextOrder_81 hd l1 l2 J r h
def F_X1_nextOrder_38 (l1 : Int32) (J : zzJ) : Option (Int32 × zzJ) := (if l1 < (0 : Int32) then some ((0 : Int32), J) else F_X1_nextOrder_51 4096 l1 ((J.2 33 3) - (1 : Int32)) J)
set_option maxRecDepth 100000 in
set_option maxHeartbeats 2000000 in
theorem G_X1_nextOrder_38 {d : Nat} (hd : 2 ≤ d) : ∀ (l1 : Int32) (J : zzJ) (r : Int32 × zzJ), F_X1_nextOrder_38 l1 J = some r → zzEv d 37 38 [.ref 33, .int l1, zzU, zzU, zzU] [] (zK J) (some (.int r.1), zK r.2) := by
  intro l1 J r h
  unfold F_X1_nextOrder_38 at h
  refine ev_iload_n zo_37_38 rfl rfl rfl ?_
  by_cases c8 : l1 < (0 : Int32)
  · rw [if_pos c8] at h
    refine ev_if_f (t := 44) zo_37_39 rfl (zcm_nge c8) rfl ?_
    refine ev_iconst (x := 0) zo_37_42 (by decide) rfl ?_
    obtain rfl := Option.some.inj h
    exact ev_retZ zo_37_43 zr_37 (Or.inl rfl)
  rw [if_neg c8] at h
  refine ev_if_t (t := 44) zo_37_39 rfl (zcm_ge c8) ?_
  refine ev_aload_n zo_37_44 rfl rfl rfl rfl ?_
  refine ev_getI zo_37_45 zf_37_31 (by decide) (Or.inl rfl) rfl rfl ?_
  refine ev_iconst (x := 1) zo_37_48 (by decide) rfl ?_
  refine ev_isub zo_37_49 rfl ?_
  refine ev_istore_n zo_37_50 rfl (zz_set rfl (by decide) (Nat.le_of_ble_eq_true rfl)) rfl ?_
  show zzEv _ _ _ [.ref 33, .int l1, .int ((J.2 33 3) - (1 : Int32)), zzU, zzU] _ _ _
  exact G_X1_nextOrder_51 hd 4096 l1 ((J.2 33 3) - (1 : Int32)) J r h
def F_X1_nextOrder_7 : Nat → Int32 → zzJ → Option (Int32 × zzJ)
  | 0, _, _ => none
  | n + 1, l1, J => (if l1 < (0 : Int32) then F_X1_nextOrder_38 l1 J else (Option.bind (F_X6_itemAt 36 l1 J) fun q10 => (Option.bind (F_X6_itemAt 36 (l1 + (1 : Int32)) q10.2) fun q11 => (if q11.1 < q10.1 then F_X1_nextOrder_7 n (l1 + (-1)) q11.2 else F_X1_nextOrder_38 l1 q11.2))))
set_option maxRecDepth 100000 in
set_option maxHeartbeats 2000000 in
theorem G_X1_nextOrder_7 {d : Nat} (hd : 2 ≤ d) : ∀ (n : Nat) (l1 : Int32) (J : zzJ) (r : Int32 × zzJ), F_X1_nextOrder_7 n l1 J = some r → zzEv d 37 7 [.ref 33, .int l1, zzU, zzU, zzU] [] (zK J) (some (.int r.1), zK r.2) := by
  intro n
  induction n with
  | zero => intro l1 J r h; simp [F_X1_nextOrder_7] at h
  | succ n ih =>
    intro l1 J r h
    rw [F_X1_nextOrder_7] at h
    refine ev_iload_n zo_37_7 rfl rfl rfl ?_
    by_cases c9 : l1 < (0 : Int32)
    · rw [if_pos c9] at h
      refine ev_if_t (t := 38) zo_37_8 rfl (zcm_lt c9) ?_
      exact G_X1_nextOrder_38 hd l1 J r h
    rw [if_neg c9] at h
    refine ev_if_f (t := 38) zo_37_8 rfl (zcm_nlt c9) rfl ?_
    refine ev_aload_n zo_37_11 rfl rfl rfl rfl ?_
    refine ev_getR zo_37_12 zf_37_18 (by decide) rfl rfl rfl rfl ?_
    refine ev_iload_n zo_37_15 rfl rfl rfl ?_
    obtain ⟨q10, hq10, h⟩ := zz_bd h
    refine ev_cS (as := [.int l1, .ref 36]) (lsn := [.ref 36, .int l1]) (by omega) zo_37_16 zl_37_48 (by decide) (by rw [zm_125]; rfl) (by unfold zzIn; rw [zm_125]; rfl) (by rw [zm_125]; exact Nat.le_of_ble_eq_true rfl) (Nat.le_of_ble_eq_true rfl) (G_X6_itemAt (by omega) 36 l1 J q10 hq10) rfl ?_
    show zzEv _ _ _ _ [.int q10.1] _ _
    refine ev_aload_n zo_37_19 rfl rfl rfl rfl ?_
    refine ev_getR zo_37_20 zf_37_18 (by decide) rfl rfl rfl rfl ?_
    refine ev_iload_n zo_37_23 rfl rfl rfl ?_
    refine ev_iconst (x := 1) zo_37_24 (by decide) rfl ?_
    refine ev_iadd zo_37_25 rfl ?_
    obtain ⟨q11, hq11, h⟩ := zz_bd h
    refine ev_cS (as := [.int (l1 + (1 : Int32)), .ref 36]) (lsn := [.ref 36, .int (l1 + (1 : Int32))]) (by omega) zo_37_26 zl_37_48 (by decide) (by rw [zm_125]; rfl) (by unfold zzIn; rw [zm_125]; rfl) (by rw [zm_125]; exact Nat.le_of_ble_eq_true rfl) (Nat.le_of_ble_eq_true rfl) (G_X6_itemAt (by omega) 36 (l1 + (1 : Int32)) q10.2 q11 hq11) rfl ?_
    show zzEv _ _ _ _ [.int q11.1, .int q10.1] _ _
    by_cases c12 : q11.1 < q10.1
    · rw [if_pos c12] at h
      refine ev_cmp_f (t := 38) zo_37_29 rfl (zcm_nle c12) rfl ?_
      refine ev_iinc (v := (-1)) zo_37_32 rfl (by decide) (zz_set rfl (by decide) (Nat.le_of_ble_eq_true rfl)) rfl ?_
      show zzEv _ _ _ [.ref 33, .int (l1 + (-1)), zzU, zzU, zzU] _ _ _
      refine ev_goto (t := 7) zo_37_35 rfl ?_
      exact ih (l1 + (-1)) q11.2 r h
    rw [if_neg c12] at h
    refine ev_cmp_t (t := 38) zo_37_29 rfl (zcm_le c12) ?_
    exact G_X1_nextOrder_38 hd l1 q11.2 r h
def F_X1_nextOrder (J : zzJ) : Option (Int32 × zzJ) := F_X1_nextOrder_7 4096 ((J.2 33 3) - (2 : Int32)) J
set_option maxRecDepth 100000 in
set_option maxHeartbeats 2000000 in
theorem G_X1_nextOrder {d : Nat} (hd : 2 ≤ d) (J : zzJ) (r : Int32 × zzJ) (h : F_X1_nextOrder J = some r) : zzEv d 37 0 [.ref 33, zzU, zzU, zzU, zzU] [] (zK J) (some (.int r.1), zK r.2) := by
  unfold F_X1_nextOrder at h
  refine ev_aload_n zo_37_0 rfl rfl rfl rfl ?_
  refine ev_getI zo_37_1 zf_37_31 (by decide) (Or.inl rfl) rfl rfl ?_
  refine ev_iconst (x := 2) zo_37_4 (by decide) rfl ?_
  refine ev_isub zo_37_5 rfl ?_
  refine ev_istore_n zo_37_6 rfl (zz_set rfl (by decide) (Nat.le_of_ble_eq_true rfl)) rfl ?_
  show zzEv _ _ _ [.ref 33, .int ((J.2 33 3) - (2 : Int32)), zzU, zzU, zzU] _ _ _
  exact G_X1_nextOrder_7 hd 4096 ((J.2 33 3) - (2 : Int32)) J r h
/-! X1_seek -/
def F_X1_seek_64 (kl_29 : Nat → Int32 → Int32 → zzJ → Option (zzJ)) (l1 : Nat) (l3 : Int32) (l4 : Int32) (J : zzJ) : Option (zzJ) := (Option.bind (F_X1_digits (wI J 33 4 l4)) fun q1 => (Option.bind (F_X1_nextOrder (wI q1.2 33 5 q1.1)) fun q2 => kl_29 l1 q2.1 (l3 + 1) q2.2))
set_option maxRecDepth 100000 in
set_option maxHeartbeats 2000000 in
theorem G_X1_seek_64 {d : Nat} (kl_29 : Nat → Int32 → Int32 → zzJ → Option (zzJ)) (hkl_29 : ∀ (l1 : Nat) (l2 : Int32) (l3 : Int32) (J : zzJ) (r : zzJ), kl_29 l1 l2 l3 J = some r → ∀ (lv4 : Value) (hlv4 : lv4.category = 1), zzEv d 34 29 [.ref 33, .ref l1, .int l2, .int l3, lv4] [] (zK J) (none, zK r)) (hd : 5 ≤ d) : ∀ (l1 : Nat) (l3 : Int32) (l4 : Int32) (J : zzJ) (r : zzJ), F_X1_seek_64 kl_29 l1 l3 l4 J = some r → ∀ (lv2 : Value) (hlv2 : lv2.category = 1), zzEv d 34 64 [.ref 33, .ref l1, lv2, .int l3, .int l4] [] (zK J) (none, zK r) := by
  intro l1 l3 l4 J r h lv2 hlv2
  unfold F_X1_seek_64 at h
  refine ev_aload_n zo_34_64 rfl rfl rfl rfl ?_
  refine ev_iload zo_34_65 rfl rfl ?_
  refine ev_putI zo_34_67 zf_34_72 (by decide) rfl rfl rfl rfl ?_
  refine ev_aload_n zo_34_70 rfl rfl rfl rfl ?_
  refine ev_aload_n zo_34_71 rfl rfl rfl rfl ?_
  obtain ⟨q1, hq1, h⟩ := zz_bd h
  refine ev_cV (as := []) (lsn := [.ref 33, zzU, zzU]) (by omega) zo_34_72 zl_34_75 (by rw [zm_36]; rfl) (by rw [zm_36]; exact rfl) (by rw [zm_36]; decide) (by unfold zzIn; rw [zm_36]; rfl) (by rw [zm_36]; exact Nat.le_of_ble_eq_true rfl) (Nat.le_of_ble_eq_true rfl) (G_X1_digits (by omega) (wI J 33 4 l4) q1 hq1) rfl ?_
  show zzEv _ _ _ _ [.int q1.1, .ref 33] _ _
  refine ev_putI zo_34_75 zf_34_78 (by decide) rfl rfl rfl rfl ?_
  refine ev_aload_n zo_34_78 rfl rfl rfl rfl ?_
  obtain ⟨q2, hq2, h⟩ := zz_bd h
  refine ev_cV (as := []) (lsn := [.ref 33, zzU, zzU, zzU, zzU]) (by omega) zo_34_79 zl_34_81 (by rw [zm_37]; rfl) (by rw [zm_37]; exact rfl) (by rw [zm_37]; decide) (by unfold zzIn; rw [zm_37]; rfl) (by rw [zm_37]; exact Nat.le_of_ble_eq_true rfl) (Nat.le_of_ble_eq_true rfl) (G_X1_nextOrder (by omega) (wI q1.2 33 5 q1.1) q2 hq2) rfl ?_
  show zzEv _ _ _ _ [.int q2.1] _ _
  refine ev_istore_n zo_34_82 rfl (zz_set rfl (by decide) (Nat.le_of_ble_eq_true rfl)) rfl ?_
  show zzEv _ _ _ [.ref 33, .ref l1, .int q2.1, .int l3, .int l4] _ _ _
  refine ev_iinc (v := 1) zo_34_83 rfl (by decide) (zz_set rfl (by decide) (Nat.le_of_ble_eq_true rfl)) rfl ?_
  show zzEv _ _ _ [.ref 33, .ref l1, .int q2.1, .int (l3 + 1), .int l4] _ _ _
  refine ev_goto (t := 29) zo_34_86 rfl ?_
  exact hkl_29 l1 q2.1 (l3 + 1) q2.2 r h (.int l4) rfl
def F_X1_seek_29 : Nat → Nat → Int32 → Int32 → zzJ → Option (zzJ)
  | 0, _, _, _, _ => none
  | n + 1, l1, l2, l3, J => (if l3 < (720 : Int32) then (if l2 = (0 : Int32) then some J else (Option.bind (F_X1_seatAll l1 J) fun q5 => (if zKd l1 = 0 then (Option.bind (F_X0_joy l1 q5) fun q7 => (if l3 = (0 : Int32) then F_X1_seek_64 (F_X1_seek_29 n) l1 l3 q7.1 q7.2 else (if (q7.2.2 33 4) < q7.1 then F_X1_seek_64 (F_X1_seek_29 n) l1 l3 q7.1 q7.2 else (Option.bind (F_X1_nextOrder q7.2) fun q10 => F_X1_seek_29 n l1 q10.1 (l3 + 1) q10.2)))) else none))) else some J)
set_option maxRecDepth 100000 in
set_option maxHeartbeats 2000000 in
theorem G_X1_seek_29 {d : Nat} (hd : 5 ≤ d) : ∀ (n : Nat) (l1 : Nat) (l2 : Int32) (l3 : Int32) (J : zzJ) (r : zzJ), F_X1_seek_29 n l1 l2 l3 J = some r → ∀ (lv4 : Value) (hlv4 : lv4.category = 1), zzEv d 34 29 [.ref 33, .ref l1, .int l2, .int l3, lv4] [] (zK J) (none, zK r) := by
  intro n
  induction n with
  | zero => intro l1 l2 l3 J r h; simp [F_X1_seek_29] at h
  | succ n ih =>
    intro l1 l2 l3 J r h lv4 hlv4
    rw [F_X1_seek_29] at h
    refine ev_iload_n zo_34_29 rfl rfl rfl ?_
    refine ev_sipush (x := 720) zo_34_30 (by decide) rfl ?_
    by_cases c3 : l3 < (720 : Int32)
    · rw [if_pos c3] at h
      refine ev_cmp_f (t := 89) zo_34_33 rfl (zcm_nge c3) rfl ?_
      refine ev_iload_n zo_34_36 rfl rfl rfl ?_
      by_cases c4 : l2 = (0 : Int32)
      · rw [if_pos c4] at h
        refine ev_if_t (t := 89) zo_34_37 rfl (zcm_eq c4) ?_
        obtain rfl := Option.some.inj h
        exact ev_retV zo_34_89 zr_34
      rw [if_neg c4] at h
      refine ev_if_f (t := 89) zo_34_37 rfl (zcm_neq c4) rfl ?_
      refine ev_aload_n zo_34_40 rfl rfl rfl rfl ?_
      refine ev_aload_n zo_34_41 rfl rfl rfl rfl ?_
      obtain ⟨q5, hq5, h⟩ := zz_bd h
      refine ev_cV (as := [.ref l1]) (lsn := [.ref 33, .ref l1, zzU]) (by omega) zo_34_42 zl_34_64 (by rw [zm_35]; rfl) (by rw [zm_35]; exact rfl) (by rw [zm_35]; decide) (by unfold zzIn; rw [zm_35]; rfl) (by rw [zm_35]; exact Nat.le_of_ble_eq_true rfl) (Nat.le_of_ble_eq_true rfl) (G_X1_seatAll (by omega) l1 J q5 hq5) rfl ?_
      show zzEv _ _ _ _ [] _ _
      refine ev_aload_n zo_34_45 rfl rfl rfl rfl ?_
      obtain ⟨c6, h⟩ := zz_chk h
      obtain ⟨q7, hq7, h⟩ := zz_bd h
      refine ev_cV (as := []) (lsn := [.ref l1, zzU, zzU]) (by omega) zo_34_46 zl_34_68 (by rw [zm_25]; rfl) (by rw [zm_25]; exact c6) (by rw [zm_25]; decide) (by unfold zzIn; rw [zm_25]; rfl) (by rw [zm_25]; exact Nat.le_of_ble_eq_true rfl) (Nat.le_of_ble_eq_true rfl) (G_X0_joy (by omega) l1 q5 q7 hq7) rfl ?_
      show zzEv _ _ _ _ [.int q7.1] _ _
      refine ev_istore zo_34_49 (zz_set rfl (by decide) (Nat.le_of_ble_eq_true rfl)) rfl ?_
      show zzEv _ _ _ [.ref 33, .ref l1, .int l2, .int l3, .int q7.1] _ _ _
      refine ev_iload_n zo_34_51 rfl rfl rfl ?_
      by_cases c8 : l3 = (0 : Int32)
      · rw [if_pos c8] at h
        refine ev_if_t (t := 64) zo_34_52 rfl (zcm_eq c8) ?_
        exact G_X1_seek_64 (F_X1_seek_29 n) ih hd l1 l3 q7.1 q7.2 r h (.int l2) rfl
      rw [if_neg c8] at h
      refine ev_if_f (t := 64) zo_34_52 rfl (zcm_neq c8) rfl ?_
      refine ev_iload zo_34_55 rfl rfl ?_
      refine ev_aload_n zo_34_57 rfl rfl rfl rfl ?_
      refine ev_getI zo_34_58 zf_34_72 (by decide) (Or.inl rfl) rfl rfl ?_
      by_cases c9 : (q7.2.2 33 4) < q7.1
      · rw [if_pos c9] at h
        refine ev_cmp_f (t := 78) zo_34_61 rfl (zcm_nle c9) rfl ?_
        exact G_X1_seek_64 (F_X1_seek_29 n) ih hd l1 l3 q7.1 q7.2 r h (.int l2) rfl
      rw [if_neg c9] at h
      refine ev_cmp_t (t := 78) zo_34_61 rfl (zcm_le c9) ?_
      refine ev_aload_n zo_34_78 rfl rfl rfl rfl ?_
      obtain ⟨q10, hq10, h⟩ := zz_bd h
      refine ev_cV (as := []) (lsn := [.ref 33, zzU, zzU, zzU, zzU]) (by omega) zo_34_79 zl_34_81 (by rw [zm_37]; rfl) (by rw [zm_37]; exact rfl) (by rw [zm_37]; decide) (by unfold zzIn; rw [zm_37]; rfl) (by rw [zm_37]; exact Nat.le_of_ble_eq_true rfl) (Nat.le_of_ble_eq_true rfl) (G_X1_nextOrder (by omega) q7.2 q10 hq10) rfl ?_
      show zzEv _ _ _ _ [.int q10.1] _ _
      refine ev_istore_n zo_34_82 rfl (zz_set rfl (by decide) (Nat.le_of_ble_eq_true rfl)) rfl ?_
      show zzEv _ _ _ [.ref 33, .ref l1, .int q10.1, .int l3, .int q7.1] _ _ _
      refine ev_iinc (v := 1) zo_34_83 rfl (by decide) (zz_set rfl (by decide) (Nat.le_of_ble_eq_true rfl)) rfl ?_
      show zzEv _ _ _ [.ref 33, .ref l1, .int q10.1, .int (l3 + 1), .int q7.1] _ _ _
      refine ev_goto (t := 29) zo_34_86 rfl ?_
      exact ih l1 q10.1 (l3 + 1) q10.2 r h (.int q7.1) rfl
    rw [if_neg c3] at h
    refine ev_cmp_t (t := 89) zo_34_33 rfl (zcm_ge c3) ?_
    obtain rfl := Option.some.inj h
    exact ev_retV zo_34_89 zr_34
def F_X1_seek_2 : Nat → Nat → Int32 → zzJ → Option (zzJ)
  | 0, _, _, _ => none
  | n + 1, l1, l2, J => (if l2 < (J.2 33 3) then (Option.bind (F_X6_put 36 l2 l2 J) fun q12 => F_X1_seek_2 n l1 (l2 + 1) q12) else F_X1_seek_29 4096 l1 (1 : Int32) (0 : Int32) J)
set_option maxRecDepth 100000 in
set_option maxHeartbeats 2000000 in
theorem G_X1_seek_2 {d : Nat} (hd : 5 ≤ d) : ∀ (n : Nat) (l1 : Nat) (l2 : Int32) (J : zzJ) (r : zzJ), F_X1_seek_2 n l1 l2 J = some r → zzEv d 34 2 [.ref 33, .ref l1, .int l2, zzU, zzU] [] (zK J) (none, zK r) := by
  intro n
  induction n with
  | zero => intro l1 l2 J r h; simp [F_X1_seek_2] at h
  | succ n ih =>
    intro l1 l2 J r h
    rw [F_X1_seek_2] at h
    refine ev_iload_n zo_34_2 rfl rfl rfl ?_
    refine ev_aload_n zo_34_3 rfl rfl rfl rfl ?_
    refine ev_getI zo_34_4 zf_34_31 (by decide) (Or.inl rfl) rfl rfl ?_
    by_cases c11 : l2 < (J.2 33 3)
    · rw [if_pos c11] at h
      refine ev_cmp_f (t := 25) zo_34_7 rfl (zcm_nge c11) rfl ?_
      refine ev_aload_n zo_34_10 rfl rfl rfl rfl ?_
      refine ev_getR zo_34_11 zf_34_18 (by decide) rfl rfl rfl rfl ?_
      refine ev_iload_n zo_34_14 rfl rfl rfl ?_
      refine ev_iload_n zo_34_15 rfl rfl rfl ?_
      obtain ⟨q12, hq12, h⟩ := zz_bd h
      refine ev_cS (as := [.int l2, .int l2, .ref 36]) (lsn := [.ref 36, .int l2, .int l2]) (by omega) zo_34_16 zl_34_36 (by decide) (by rw [zm_126]; rfl) (by unfold zzIn; rw [zm_126]; rfl) (by rw [zm_126]; exact Nat.le_of_ble_eq_true rfl) (Nat.le_of_ble_eq_true rfl) (G_X6_put (by omega) 36 l2 l2 J q12 hq12) rfl ?_
      show zzEv _ _ _ _ [] _ _
      refine ev_iinc (v := 1) zo_34_19 rfl (by decide) (zz_set rfl (by decide) (Nat.le_of_ble_eq_true rfl)) rfl ?_
      show zzEv _ _ _ [.ref 33, .ref l1, .int (l2 + 1), zzU, zzU] _ _ _
      refine ev_goto (t := 2) zo_34_22 rfl ?_
      exact ih l1 (l2 + 1) q12 r h
    rw [if_neg c11] at h
    refine ev_cmp_t (t := 25) zo_34_7 rfl (zcm_ge c11) ?_
    refine ev_iconst (x := 1) zo_34_25 (by decide) rfl ?_
    refine ev_istore_n zo_34_26 rfl (zz_set rfl (by decide) (Nat.le_of_ble_eq_true rfl)) rfl ?_
    show zzEv _ _ _ [.ref 33, .ref l1, .int (1 : Int32), zzU, zzU] _ _ _
    refine ev_iconst (x := 0) zo_34_27 (by decide) rfl ?_
    refine ev_istore_n zo_34_28 rfl (zz_set rfl (by decide) (Nat.le_of_ble_eq_true rfl)) rfl ?_
    show zzEv _ _ _ [.ref 33, .ref l1, .int (1 : Int32), .int (0 : Int32), zzU] _ _ _
    exact G_X1_seek_29 hd 4096 l1 (1 : Int32) (0 : Int32) J r h (zzU) rfl
def F_X1_seek (x1 : Nat) (J : zzJ) : Option (zzJ) := F_X1_seek_2 4096 x1 (0 : Int32) J
set_option maxRecDepth 100000 in
set_option maxHeartbeats 2000000 in
theorem G_X1_seek {d : Nat} (hd : 5 ≤ d) (x1 : Nat) (J : zzJ) (r : zzJ) (h : F_X1_seek x1 J = some r) : zzEv d 34 0 [.ref 33, .ref x1, zzU, zzU, zzU] [] (zK J) (none, zK r) := by
  unfold F_X1_seek at h
  refine ev_iconst (x := 0) zo_34_0 (by decide) rfl ?_
  refine ev_istore_n zo_34_1 rfl (zz_set rfl (by decide) (Nat.le_of_ble_eq_true rfl)) rfl ?_
  show zzEv _ _ _ [.ref 33, .ref x1, .int (0 : Int32), zzU, zzU] _ _ _
  exact G_X1_seek_2 hd 4096 x1 (0 : Int32) J r h
