/-! the methods as functions, and that they are (written by wip/whole/gen2.py) -/
/-! X2_append -/
def F_X2_append (x1 : Int32) (J : zzJ) : Option (Int32 × zzJ) := (Option.bind (F_X6_put 6 (J.2 5 2) x1 J) fun q1 => some (((wI q1 5 2 ((q1.2 5 2) + (1 : Int32))).2 5 2), (wI q1 5 2 ((q1.2 5 2) + (1 : Int32)))))
set_option maxRecDepth 100000 in
set_option maxHeartbeats 2000000 in
theorem G_X2_append {d : Nat} (hd : 1 ≤ d) (x1 : Int32) (J : zzJ) (r : Int32 × zzJ) (h : F_X2_append x1 J = some r) : zzEv d 40 0 [.ref 5, .int x1] [] (zK J) (some (.int r.1), zK r.2) := by
  unfold F_X2_append at h
  refine ev_aload_n zo_40_0 rfl rfl rfl rfl ?_
  refine ev_getR zo_40_1 zf_40_15 (by decide) rfl rfl rfl rfl ?_
  refine ev_aload_n zo_40_4 rfl rfl rfl rfl ?_
  refine ev_getI zo_40_5 zf_40_19 (by decide) (Or.inl rfl) rfl rfl ?_
  refine ev_iload_n zo_40_8 rfl rfl rfl ?_
  obtain ⟨q1, hq1, h⟩ := zz_bd h
  refine ev_cS (as := [.int x1, .int (J.2 5 2), .ref 6]) (lsn := [.ref 6, .int (J.2 5 2), .int x1]) (by omega) zo_40_9 zl_40_26 (by decide) (by rw [zm_126]; rfl) (by unfold zzIn; rw [zm_126]; rfl) (by rw [zm_126]; exact Nat.le_of_ble_eq_true rfl) (Nat.le_of_ble_eq_true rfl) (G_X6_put (by omega) 6 (J.2 5 2) x1 J q1 hq1) rfl ?_
  show zzEv _ _ _ _ [] _ _
  refine ev_aload_n zo_40_12 rfl rfl rfl rfl ?_
  refine ev_dup zo_40_13 rfl rfl ?_
  refine ev_getI zo_40_14 zf_40_19 (by decide) (Or.inl rfl) rfl rfl ?_
  refine ev_iconst (x := 1) zo_40_17 (by decide) rfl ?_
  refine ev_iadd zo_40_18 rfl ?_
  refine ev_putI zo_40_19 zf_40_19 (by decide) rfl rfl rfl rfl ?_
  refine ev_aload_n zo_40_22 rfl rfl rfl rfl ?_
  refine ev_getI zo_40_23 zf_40_19 (by decide) (Or.inl rfl) rfl rfl ?_
  obtain rfl := Option.some.inj h
  exact ev_retI zo_40_26 zr_40
/-! X2_fail -/
def F_X2_fail (J : zzJ) : Option (zzJ) := (if (J.2 5 6) = (-1 : Int32) then some (wI (wI J 5 6 (J.2 5 3)) 5 5 (-2 : Int32)) else some (wI J 5 5 (-2 : Int32)))
set_option maxRecDepth 100000 in
set_option maxHeartbeats 2000000 in
theorem G_X2_fail {d : Nat} (hd : 0 ≤ d) (J : zzJ) (r : zzJ) (h : F_X2_fail J = some r) : zzEv d 50 0 [.ref 5] [] (zK J) (none, zK r) := by
  unfold F_X2_fail at h
  refine ev_aload_n zo_50_0 rfl rfl rfl rfl ?_
  refine ev_getI zo_50_1 zf_50_23 (by decide) (Or.inl rfl) rfl rfl ?_
  refine ev_iconst (x := (-1)) zo_50_4 (by decide) rfl ?_
  by_cases c1 : (J.2 5 6) = (-1 : Int32)
  · rw [if_pos c1] at h
    refine ev_cmp_f (t := 16) zo_50_5 rfl (zcm_nne c1) rfl ?_
    refine ev_aload_n zo_50_8 rfl rfl rfl rfl ?_
    refine ev_aload_n zo_50_9 rfl rfl rfl rfl ?_
    refine ev_getI zo_50_10 zf_50_82 (by decide) (Or.inl rfl) rfl rfl ?_
    refine ev_putI zo_50_13 zf_50_23 (by decide) rfl rfl rfl rfl ?_
    refine ev_aload_n zo_50_16 rfl rfl rfl rfl ?_
    refine ev_bipush (x := (-2)) zo_50_17 (by decide) rfl ?_
    refine ev_putI zo_50_19 zf_50_51 (by decide) rfl rfl rfl rfl ?_
    obtain rfl := Option.some.inj h
    exact ev_retV zo_50_22 zr_50
  rw [if_neg c1] at h
  refine ev_cmp_t (t := 16) zo_50_5 rfl (zcm_ne c1) ?_
  refine ev_aload_n zo_50_16 rfl rfl rfl rfl ?_
  refine ev_bipush (x := (-2)) zo_50_17 (by decide) rfl ?_
  refine ev_putI zo_50_19 zf_50_51 (by decide) rfl rfl rfl rfl ?_
  obtain rfl := Option.some.inj h
  exact ev_retV zo_50_22 zr_50
/-! X2_byteAt -/
def F_X2_byteAt (x1 : Int32) (J : zzJ) : Option (Int32 × zzJ) := (if x1 < (0 : Int32) then some ((-1 : Int32), J) else (if x1 < (J.2 5 2) then (if x1 < (160 : Int32) then (if zzIx x1 160 then some ((J.2 6 x1.toNatClampNeg), J) else none) else some ((-1 : Int32), J)) else some ((-1 : Int32), J)))
set_option maxRecDepth 100000 in
set_option maxHeartbeats 2000000 in
theorem G_X2_byteAt {d : Nat} (hd : 0 ≤ d) (x1 : Int32) (J : zzJ) (r : Int32 × zzJ) (h : F_X2_byteAt x1 J = some r) : zzEv d 57 0 [.ref 5, .int x1] [] (zK J) (some (.int r.1), zK r.2) := by
  unfold F_X2_byteAt at h
  refine ev_iload_n zo_57_0 rfl rfl rfl ?_
  by_cases c1 : x1 < (0 : Int32)
  · rw [if_pos c1] at h
    refine ev_if_t (t := 30) zo_57_1 rfl (zcm_lt c1) ?_
    refine ev_iconst (x := (-1)) zo_57_30 (by decide) rfl ?_
    obtain rfl := Option.some.inj h
    exact ev_retI zo_57_31 zr_57
  rw [if_neg c1] at h
  refine ev_if_f (t := 30) zo_57_1 rfl (zcm_nlt c1) rfl ?_
  refine ev_iload_n zo_57_4 rfl rfl rfl ?_
  refine ev_aload_n zo_57_5 rfl rfl rfl rfl ?_
  refine ev_getI zo_57_6 zf_57_19 (by decide) (Or.inl rfl) rfl rfl ?_
  by_cases c2 : x1 < (J.2 5 2)
  · rw [if_pos c2] at h
    refine ev_cmp_f (t := 30) zo_57_9 rfl (zcm_nge c2) rfl ?_
    refine ev_iload_n zo_57_12 rfl rfl rfl ?_
    refine ev_aload_n zo_57_13 rfl rfl rfl rfl ?_
    refine ev_getR zo_57_14 zf_57_15 (by decide) rfl rfl rfl rfl ?_
    refine ev_alen zo_57_17 (by decide) rfl ?_
    show zzEv _ _ _ _ [.int (160 : Int32), .int x1] _ _
    by_cases c3 : x1 < (160 : Int32)
    · rw [if_pos c3] at h
      refine ev_cmp_f (t := 30) zo_57_18 rfl (zcm_nge c3) rfl ?_
      refine ev_aload_n zo_57_21 rfl rfl rfl rfl ?_
      refine ev_getR zo_57_22 zf_57_15 (by decide) rfl rfl rfl rfl ?_
      refine ev_iload_n zo_57_25 rfl rfl rfl ?_
      obtain ⟨c4, h⟩ := zz_chk h
      refine ev_iald zo_57_26 rfl c4 rfl ?_
      refine ev_goto (t := 31) zo_57_27 rfl ?_
      obtain rfl := Option.some.inj h
      exact ev_retI zo_57_31 zr_57
    rw [if_neg c3] at h
    refine ev_cmp_t (t := 30) zo_57_18 rfl (zcm_ge c3) ?_
    refine ev_iconst (x := (-1)) zo_57_30 (by decide) rfl ?_
    obtain rfl := Option.some.inj h
    exact ev_retI zo_57_31 zr_57
  rw [if_neg c2] at h
  refine ev_cmp_t (t := 30) zo_57_9 rfl (zcm_ge c2) ?_
  refine ev_iconst (x := (-1)) zo_57_30 (by decide) rfl ?_
  obtain rfl := Option.some.inj h
  exact ev_retI zo_57_31 zr_57
/-! X2_isWord -/
def F_X2_isWord_20 : Nat → Nat → Int32 → zzJ → Option (Int32 × zzJ)
  | 0, _, _, _ => none
  | n + 1, l1, l2, J => (if 1000 ≤ l1 ∧ l1 < 1013 then (if l2 < (Int32.ofNat (zzTx (l1 - 1000)).length) then (if 1000 ≤ l1 ∧ l1 < 1013 then (if zzIx l2 (zzTx (l1 - 1000)).length then (Option.bind (F_X2_byteAt ((J.2 5 3) + l2) J) fun q5 => (if (Int32.ofNat ((zzTx (l1 - 1000)).getD l2.toNatClampNeg 0)) = q5.1 then F_X2_isWord_20 n l1 (l2 + 1) q5.2 else some ((0 : Int32), q5.2))) else none) else none) else some ((1 : Int32), J)) else none)
set_option maxRecDepth 100000 in
set_option maxHeartbeats 2000000 in
theorem G_X2_isWord_20 {d : Nat} (hd : 1 ≤ d) : ∀ (n : Nat) (l1 : Nat) (l2 : Int32) (J : zzJ) (r : Int32 × zzJ), F_X2_isWord_20 n l1 l2 J = some r → zzEv d 53 20 [.ref 5, .ref l1, .int l2] [] (zK J) (some (.int r.1), zK r.2) := by
  intro n
  induction n with
  | zero => intro l1 l2 J r h; simp [F_X2_isWord_20] at h
  | succ n ih =>
    intro l1 l2 J r h
    rw [F_X2_isWord_20] at h
    refine ev_iload_n zo_53_20 rfl rfl rfl ?_
    refine ev_aload_n zo_53_21 rfl rfl rfl rfl ?_
    obtain ⟨c1, h⟩ := zz_chk h
    refine ev_slength zo_53_22 zl_53_115 (Nat.le_of_ble_eq_true rfl) c1 rfl ?_
    by_cases c2 : l2 < (Int32.ofNat (zzTx (l1 - 1000)).length)
    · rw [if_pos c2] at h
      refine ev_cmp_f (t := 54) zo_53_25 rfl (zcm_nge c2) rfl ?_
      refine ev_aload_n zo_53_28 rfl rfl rfl rfl ?_
      refine ev_iload_n zo_53_29 rfl rfl rfl ?_
      obtain ⟨c3, h⟩ := zz_chk h
      obtain ⟨c4, h⟩ := zz_chk h
      refine ev_scharAt zo_53_30 zl_53_121 (Nat.le_of_ble_eq_true rfl) c3 c4 rfl ?_
      refine ev_aload_n zo_53_33 rfl rfl rfl rfl ?_
      refine ev_aload_n zo_53_34 rfl rfl rfl rfl ?_
      refine ev_getI zo_53_35 zf_53_82 (by decide) (Or.inl rfl) rfl rfl ?_
      refine ev_iload_n zo_53_38 rfl rfl rfl ?_
      refine ev_iadd zo_53_39 rfl ?_
      obtain ⟨q5, hq5, h⟩ := zz_bd h
      refine ev_cV (as := [.int ((J.2 5 3) + l2)]) (lsn := [.ref 5, .int ((J.2 5 3) + l2)]) (by omega) zo_53_40 zl_53_85 (by rw [zm_57]; rfl) (by rw [zm_57]; exact rfl) (by rw [zm_57]; decide) (by unfold zzIn; rw [zm_57]; rfl) (by rw [zm_57]; exact Nat.le_of_ble_eq_true rfl) (Nat.le_of_ble_eq_true rfl) (G_X2_byteAt (by omega) ((J.2 5 3) + l2) J q5 hq5) rfl ?_
      show zzEv _ _ _ _ [.int q5.1, .int (Int32.ofNat ((zzTx (l1 - 1000)).getD l2.toNatClampNeg 0))] _ _
      by_cases c6 : (Int32.ofNat ((zzTx (l1 - 1000)).getD l2.toNatClampNeg 0)) = q5.1
      · rw [if_pos c6] at h
        refine ev_cmp_t (t := 48) zo_53_43 rfl (zcm_eq c6) ?_
        refine ev_iinc (v := 1) zo_53_48 rfl (by decide) (zz_set rfl (by decide) (Nat.le_of_ble_eq_true rfl)) rfl ?_
        show zzEv _ _ _ [.ref 5, .ref l1, .int (l2 + 1)] _ _ _
        refine ev_goto (t := 20) zo_53_51 rfl ?_
        exact ih l1 (l2 + 1) q5.2 r h
      rw [if_neg c6] at h
      refine ev_cmp_f (t := 48) zo_53_43 rfl (zcm_neq c6) rfl ?_
      refine ev_iconst (x := 0) zo_53_46 (by decide) rfl ?_
      obtain rfl := Option.some.inj h
      exact ev_retZ zo_53_47 zr_53 (Or.inl rfl)
    rw [if_neg c2] at h
    refine ev_cmp_t (t := 54) zo_53_25 rfl (zcm_ge c2) ?_
    refine ev_iconst (x := 1) zo_53_54 (by decide) rfl ?_
    obtain rfl := Option.some.inj h
    exact ev_retZ zo_53_55 zr_53 (Or.inr rfl)
def F_X2_isWord (x1 : Nat) (J : zzJ) : Option (Int32 × zzJ) := (if 1000 ≤ x1 ∧ x1 < 1013 then (if (Int32.ofNat (zzTx (x1 - 1000)).length) = ((J.2 5 4) - (J.2 5 3)) then F_X2_isWord_20 4096 x1 (0 : Int32) J else some ((0 : Int32), J)) else none)
set_option maxRecDepth 100000 in
set_option maxHeartbeats 2000000 in
theorem G_X2_isWord {d : Nat} (hd : 1 ≤ d) (x1 : Nat) (J : zzJ) (r : Int32 × zzJ) (h : F_X2_isWord x1 J = some r) : zzEv d 53 0 [.ref 5, .ref x1, zzU] [] (zK J) (some (.int r.1), zK r.2) := by
  unfold F_X2_isWord at h
  refine ev_aload_n zo_53_0 rfl rfl rfl rfl ?_
  obtain ⟨c7, h⟩ := zz_chk h
  refine ev_slength zo_53_1 zl_53_115 (Nat.le_of_ble_eq_true rfl) c7 rfl ?_
  refine ev_aload_n zo_53_4 rfl rfl rfl rfl ?_
  refine ev_getI zo_53_5 zf_53_30 (by decide) (Or.inl rfl) rfl rfl ?_
  refine ev_aload_n zo_53_8 rfl rfl rfl rfl ?_
  refine ev_getI zo_53_9 zf_53_82 (by decide) (Or.inl rfl) rfl rfl ?_
  refine ev_isub zo_53_12 rfl ?_
  by_cases c8 : (Int32.ofNat (zzTx (x1 - 1000)).length) = ((J.2 5 4) - (J.2 5 3))
  · rw [if_pos c8] at h
    refine ev_cmp_t (t := 18) zo_53_13 rfl (zcm_eq c8) ?_
    refine ev_iconst (x := 0) zo_53_18 (by decide) rfl ?_
    refine ev_istore_n zo_53_19 rfl (zz_set rfl (by decide) (Nat.le_of_ble_eq_true rfl)) rfl ?_
    show zzEv _ _ _ [.ref 5, .ref x1, .int (0 : Int32)] _ _ _
    exact G_X2_isWord_20 hd 4096 x1 (0 : Int32) J r h
  rw [if_neg c8] at h
  refine ev_cmp_f (t := 18) zo_53_13 rfl (zcm_neq c8) rfl ?_
  refine ev_iconst (x := 0) zo_53_16 (by decide) rfl ?_
  obtain rfl := Option.some.inj h
  exact ev_retZ zo_53_17 zr_53 (Or.inl rfl)
/-! X2_spelling -/
def F_X2_spelling (x0 : Int32) (J : zzJ) : Option (Option Nat × zzJ) := (if x0 = 10000 then some ((some (1000 + 1)), J) else (if x0 = 10001 then some ((some (1000 + 2)), J) else (if x0 = 10002 then some ((some (1000 + 3)), J) else (if x0 = 10003 then some ((some (1000 + 4)), J) else (if x0 = 10004 then some ((some (1000 + 5)), J) else (if x0 = 10005 then some ((some (1000 + 6)), J) else (if x0 = 10006 then some ((some (1000 + 7)), J) else (if x0 = 10007 then some ((some (1000 + 8)), J) else (if x0 = 10008 then some ((some (1000 + 9)), J) else (if x0 = 10009 then some ((some (1000 + 10)), J) else (if x0 = 10010 then some ((some (1000 + 11)), J) else some ((some (1000 + 12)), J))))))))))))
set_option maxRecDepth 100000 in
set_option maxHeartbeats 2000000 in
theorem G_X2_spelling {d : Nat} (hd : 0 ≤ d) (x0 : Int32) (J : zzJ) (r : Option Nat × zzJ) (h : F_X2_spelling x0 J = some r) : zzEv d 54 0 [.int x0] [] (zK J) (some (va_rf r.1), zK r.2) := by
  unfold F_X2_spelling at h
  refine ev_iload_n zo_54_0 rfl rfl rfl ?_
  by_cases s1 : x0 = 10000
  · rw [if_pos s1] at h
    refine ev_tableIn (t := 60) zo_54_1 s1 rfl ?_
    refine ev_ldcS zo_54_60 zc_54_125 rfl ?_
    obtain rfl := Option.some.inj h
    exact ev_retR (o := (some (1000 + 1))) zo_54_62 zr_54
  rw [if_neg s1] at h
  by_cases s2 : x0 = 10001
  · rw [if_pos s2] at h
    refine ev_tableIn (t := 63) zo_54_1 s2 rfl ?_
    refine ev_ldcS zo_54_63 zc_54_127 rfl ?_
    obtain rfl := Option.some.inj h
    exact ev_retR (o := (some (1000 + 2))) zo_54_65 zr_54
  rw [if_neg s2] at h
  by_cases s3 : x0 = 10002
  · rw [if_pos s3] at h
    refine ev_tableIn (t := 66) zo_54_1 s3 rfl ?_
    refine ev_ldcS zo_54_66 zc_54_129 rfl ?_
    obtain rfl := Option.some.inj h
    exact ev_retR (o := (some (1000 + 3))) zo_54_68 zr_54
  rw [if_neg s3] at h
  by_cases s4 : x0 = 10003
  · rw [if_pos s4] at h
    refine ev_tableIn (t := 69) zo_54_1 s4 rfl ?_
    refine ev_ldcS zo_54_69 zc_54_131 rfl ?_
    obtain rfl := Option.some.inj h
    exact ev_retR (o := (some (1000 + 4))) zo_54_71 zr_54
  rw [if_neg s4] at h
  by_cases s5 : x0 = 10004
  · rw [if_pos s5] at h
    refine ev_tableIn (t := 72) zo_54_1 s5 rfl ?_
    refine ev_ldcS zo_54_72 zc_54_133 rfl ?_
    obtain rfl := Option.some.inj h
    exact ev_retR (o := (some (1000 + 5))) zo_54_74 zr_54
  rw [if_neg s5] at h
  by_cases s6 : x0 = 10005
  · rw [if_pos s6] at h
    refine ev_tableIn (t := 75) zo_54_1 s6 rfl ?_
    refine ev_ldcS zo_54_75 zc_54_135 rfl ?_
    obtain rfl := Option.some.inj h
    exact ev_retR (o := (some (1000 + 6))) zo_54_77 zr_54
  rw [if_neg s6] at h
  by_cases s7 : x0 = 10006
  · rw [if_pos s7] at h
    refine ev_tableIn (t := 78) zo_54_1 s7 rfl ?_
    refine ev_ldcS zo_54_78 zc_54_137 rfl ?_
    obtain rfl := Option.some.inj h
    exact ev_retR (o := (some (1000 + 7))) zo_54_80 zr_54
  rw [if_neg s7] at h
  by_cases s8 : x0 = 10007
  · rw [if_pos s8] at h
    refine ev_tableIn (t := 81) zo_54_1 s8 rfl ?_
    refine ev_ldcS zo_54_81 zc_54_139 rfl ?_
    obtain rfl := Option.some.inj h
    exact ev_retR (o := (some (1000 + 8))) zo_54_83 zr_54
  rw [if_neg s8] at h
  by_cases s9 : x0 = 10008
  · rw [if_pos s9] at h
    refine ev_tableIn (t := 84) zo_54_1 s9 rfl ?_
    refine ev_ldcS zo_54_84 zc_54_141 rfl ?_
    obtain rfl := Option.some.inj h
    exact ev_retR (o := (some (1000 + 9))) zo_54_86 zr_54
  rw [if_neg s9] at h
  by_cases s10 : x0 = 10009
  · rw [if_pos s10] at h
    refine ev_tableIn (t := 87) zo_54_1 s10 rfl ?_
    refine ev_ldcS zo_54_87 zc_54_143 rfl ?_
    obtain rfl := Option.some.inj h
    exact ev_retR (o := (some (1000 + 10))) zo_54_89 zr_54
  rw [if_neg s10] at h
  by_cases s11 : x0 = 10010
  · rw [if_pos s11] at h
    refine ev_tableIn (t := 90) zo_54_1 s11 rfl ?_
    refine ev_ldcS zo_54_90 zc_54_145 rfl ?_
    obtain rfl := Option.some.inj h
    exact ev_retR (o := (some (1000 + 11))) zo_54_92 zr_54
  rw [if_neg s11] at h
  refine ev_tableOut (t := 93) zo_54_1 (sw_out 11 rfl fun k hk => ?_) rfl ?_
  · rcases (show k = 0 ∨ k = 1 ∨ k = 2 ∨ k = 3 ∨ k = 4 ∨ k = 5 ∨ k = 6 ∨ k = 7 ∨ k = 8 ∨ k = 9 ∨ k = 10 by omega) with rfl | rfl | rfl | rfl | rfl | rfl | rfl | rfl | rfl | rfl | rfl
    · exact sw_ne s1 (by decide)
    · exact sw_ne s2 (by decide)
    · exact sw_ne s3 (by decide)
    · exact sw_ne s4 (by decide)
    · exact sw_ne s5 (by decide)
    · exact sw_ne s6 (by decide)
    · exact sw_ne s7 (by decide)
    · exact sw_ne s8 (by decide)
    · exact sw_ne s9 (by decide)
    · exact sw_ne s10 (by decide)
    · exact sw_ne s11 (by decide)
  refine ev_ldcS zo_54_93 zc_54_147 rfl ?_
  obtain rfl := Option.some.inj h
  exact ev_retR (o := (some (1000 + 12))) zo_54_95 zr_54
/-! X2_isLetter -/
def F_X2_isLetter (x0 : Int32) (J : zzJ) : Option (Int32 × zzJ) := (if x0 < (97 : Int32) then some ((0 : Int32), J) else (if (122 : Int32) < x0 then some ((0 : Int32), J) else some ((1 : Int32), J)))
set_option maxRecDepth 100000 in
set_option maxHeartbeats 2000000 in
theorem G_X2_isLetter {d : Nat} (hd : 0 ≤ d) (x0 : Int32) (J : zzJ) (r : Int32 × zzJ) (h : F_X2_isLetter x0 J = some r) : zzEv d 59 0 [.int x0] [] (zK J) (some (.int r.1), zK r.2) := by
  unfold F_X2_isLetter at h
  refine ev_iload_n zo_59_0 rfl rfl rfl ?_
  refine ev_bipush (x := 97) zo_59_1 (by decide) rfl ?_
  by_cases c1 : x0 < (97 : Int32)
  · rw [if_pos c1] at h
    refine ev_cmp_t (t := 16) zo_59_3 rfl (zcm_lt c1) ?_
    refine ev_iconst (x := 0) zo_59_16 (by decide) rfl ?_
    obtain rfl := Option.some.inj h
    exact ev_retZ zo_59_17 zr_59 (Or.inl rfl)
  rw [if_neg c1] at h
  refine ev_cmp_f (t := 16) zo_59_3 rfl (zcm_nlt c1) rfl ?_
  refine ev_iload_n zo_59_6 rfl rfl rfl ?_
  refine ev_bipush (x := 122) zo_59_7 (by decide) rfl ?_
  by_cases c2 : (122 : Int32) < x0
  · rw [if_pos c2] at h
    refine ev_cmp_t (t := 16) zo_59_9 rfl (zcm_gt c2) ?_
    refine ev_iconst (x := 0) zo_59_16 (by decide) rfl ?_
    obtain rfl := Option.some.inj h
    exact ev_retZ zo_59_17 zr_59 (Or.inl rfl)
  rw [if_neg c2] at h
  refine ev_cmp_f (t := 16) zo_59_9 rfl (zcm_ngt c2) rfl ?_
  refine ev_iconst (x := 1) zo_59_12 (by decide) rfl ?_
  refine ev_goto (t := 17) zo_59_13 rfl ?_
  obtain rfl := Option.some.inj h
  exact ev_retZ zo_59_17 zr_59 (Or.inr rfl)
/-! X2_advanceWord -/
def F_X2_advanceWord_42 : Nat → Int32 → zzJ → Option (zzJ)
  | 0, _, _ => none
  | n + 1, l1, J => (if (10011 : Int32) < l1 then (Option.bind (F_X2_fail J) fun q2 => some q2) else (Option.bind (F_X2_spelling l1 J) fun q3 => (Option.bind q3.1 fun b4 => (Option.bind (F_X2_isWord b4 q3.2) fun q5 => (if q5.1 = (0 : Int32) then F_X2_advanceWord_42 n (l1 + 1) q5.2 else some (wI q5.2 5 5 l1))))))
set_option maxRecDepth 100000 in
set_option maxHeartbeats 2000000 in
theorem G_X2_advanceWord_42 {d : Nat} (hd : 2 ≤ d) : ∀ (n : Nat) (l1 : Int32) (J : zzJ) (r : zzJ), F_X2_advanceWord_42 n l1 J = some r → zzEv d 52 42 [.ref 5, .int l1] [] (zK J) (none, zK r) := by
  intro n
  induction n with
  | zero => intro l1 J r h; simp [F_X2_advanceWord_42] at h
  | succ n ih =>
    intro l1 J r h
    rw [F_X2_advanceWord_42] at h
    refine ev_iload_n zo_52_42 rfl rfl rfl ?_
    refine ev_sipush (x := 10011) zo_52_43 (by decide) rfl ?_
    by_cases c1 : (10011 : Int32) < l1
    · rw [if_pos c1] at h
      refine ev_cmp_t (t := 72) zo_52_46 rfl (zcm_gt c1) ?_
      refine ev_aload_n zo_52_72 rfl rfl rfl rfl ?_
      obtain ⟨q2, hq2, h⟩ := zz_bd h
      refine ev_cV (as := []) (lsn := [.ref 5]) (by omega) zo_52_73 zl_52_54 (by rw [zm_50]; rfl) (by rw [zm_50]; exact rfl) (by rw [zm_50]; decide) (by unfold zzIn; rw [zm_50]; rfl) (by rw [zm_50]; exact Nat.le_of_ble_eq_true rfl) (Nat.le_of_ble_eq_true rfl) (G_X2_fail (by omega) J q2 hq2) rfl ?_
      show zzEv _ _ _ _ [] _ _
      obtain rfl := Option.some.inj h
      exact ev_retV zo_52_76 zr_52
    rw [if_neg c1] at h
    refine ev_cmp_f (t := 72) zo_52_46 rfl (zcm_ngt c1) rfl ?_
    refine ev_aload_n zo_52_49 rfl rfl rfl rfl ?_
    refine ev_iload_n zo_52_50 rfl rfl rfl ?_
    obtain ⟨q3, hq3, h⟩ := zz_bd h
    refine ev_cS (as := [.int l1]) (lsn := [.int l1]) (by omega) zo_52_51 zl_52_107 (by decide) (by rw [zm_54]; rfl) (by unfold zzIn; rw [zm_54]; rfl) (by rw [zm_54]; exact Nat.le_of_ble_eq_true rfl) (Nat.le_of_ble_eq_true rfl) (G_X2_spelling (by omega) l1 J q3 hq3) rfl ?_
    show zzEv _ _ _ _ [va_rf q3.1, .ref 5] _ _
    obtain ⟨b4, eb4, h⟩ := zz_bd h
    rw [eb4]
    obtain ⟨q5, hq5, h⟩ := zz_bd h
    refine ev_cV (as := [.ref b4]) (lsn := [.ref 5, .ref b4, zzU]) (by omega) zo_52_54 zl_52_111 (by rw [zm_53]; rfl) (by rw [zm_53]; exact rfl) (by rw [zm_53]; decide) (by unfold zzIn; rw [zm_53]; rfl) (by rw [zm_53]; exact Nat.le_of_ble_eq_true rfl) (Nat.le_of_ble_eq_true rfl) (G_X2_isWord (by omega) b4 q3.2 q5 hq5) rfl ?_
    show zzEv _ _ _ _ [.int q5.1] _ _
    by_cases c6 : q5.1 = (0 : Int32)
    · rw [if_pos c6] at h
      refine ev_if_t (t := 66) zo_52_57 rfl (zcm_eq c6) ?_
      refine ev_iinc (v := 1) zo_52_66 rfl (by decide) (zz_set rfl (by decide) (Nat.le_of_ble_eq_true rfl)) rfl ?_
      show zzEv _ _ _ [.ref 5, .int (l1 + 1)] _ _ _
      refine ev_goto (t := 42) zo_52_69 rfl ?_
      exact ih (l1 + 1) q5.2 r h
    rw [if_neg c6] at h
    refine ev_if_f (t := 66) zo_52_57 rfl (zcm_neq c6) rfl ?_
    refine ev_aload_n zo_52_60 rfl rfl rfl rfl ?_
    refine ev_iload_n zo_52_61 rfl rfl rfl ?_
    refine ev_putI zo_52_62 zf_52_51 (by decide) rfl rfl rfl rfl ?_
    obtain rfl := Option.some.inj h
    exact ev_retV zo_52_65 zr_52
def F_X2_advanceWord_0 : Nat → zzJ → Option (zzJ)
  | 0, _ => none
  | n + 1, J => (if (J.2 5 4) < (J.2 5 2) then (Option.bind (F_X2_byteAt (J.2 5 4) J) fun q8 => (Option.bind (F_X2_isLetter q8.1 q8.2) fun q9 => (if q9.1 = (0 : Int32) then F_X2_advanceWord_42 4096 (10000 : Int32) q9.2 else F_X2_advanceWord_0 n (wI q9.2 5 4 ((q9.2.2 5 4) + (1 : Int32)))))) else F_X2_advanceWord_42 4096 (10000 : Int32) J)
set_option maxRecDepth 100000 in
set_option maxHeartbeats 2000000 in
theorem G_X2_advanceWord_0 {d : Nat} (hd : 2 ≤ d) : ∀ (n : Nat) (J : zzJ) (r : zzJ), F_X2_advanceWord_0 n J = some r → zzEv d 52 0 [.ref 5, zzU] [] (zK J) (none, zK r) := by
  intro n
  induction n with
  | zero => intro J r h; simp [F_X2_advanceWord_0] at h
  | succ n ih =>
    intro J r h
    rw [F_X2_advanceWord_0] at h
    refine ev_aload_n zo_52_0 rfl rfl rfl rfl ?_
    refine ev_getI zo_52_1 zf_52_30 (by decide) (Or.inl rfl) rfl rfl ?_
    refine ev_aload_n zo_52_4 rfl rfl rfl rfl ?_
    refine ev_getI zo_52_5 zf_52_19 (by decide) (Or.inl rfl) rfl rfl ?_
    by_cases c7 : (J.2 5 4) < (J.2 5 2)
    · rw [if_pos c7] at h
      refine ev_cmp_f (t := 38) zo_52_8 rfl (zcm_nge c7) rfl ?_
      refine ev_aload_n zo_52_11 rfl rfl rfl rfl ?_
      refine ev_aload_n zo_52_12 rfl rfl rfl rfl ?_
      refine ev_getI zo_52_13 zf_52_30 (by decide) (Or.inl rfl) rfl rfl ?_
      obtain ⟨q8, hq8, h⟩ := zz_bd h
      refine ev_cV (as := [.int (J.2 5 4)]) (lsn := [.ref 5, .int (J.2 5 4)]) (by omega) zo_52_16 zl_52_85 (by rw [zm_57]; rfl) (by rw [zm_57]; exact rfl) (by rw [zm_57]; decide) (by unfold zzIn; rw [zm_57]; rfl) (by rw [zm_57]; exact Nat.le_of_ble_eq_true rfl) (Nat.le_of_ble_eq_true rfl) (G_X2_byteAt (by omega) (J.2 5 4) J q8 hq8) rfl ?_
      show zzEv _ _ _ _ [.int q8.1] _ _
      obtain ⟨q9, hq9, h⟩ := zz_bd h
      refine ev_cS (as := [.int q8.1]) (lsn := [.int q8.1]) (by omega) zo_52_19 zl_52_92 (by decide) (by rw [zm_59]; rfl) (by unfold zzIn; rw [zm_59]; rfl) (by rw [zm_59]; exact Nat.le_of_ble_eq_true rfl) (Nat.le_of_ble_eq_true rfl) (G_X2_isLetter (by omega) q8.1 q8.2 q9 hq9) rfl ?_
      show zzEv _ _ _ _ [.int q9.1] _ _
      by_cases c10 : q9.1 = (0 : Int32)
      · rw [if_pos c10] at h
        refine ev_if_t (t := 38) zo_52_22 rfl (zcm_eq c10) ?_
        refine ev_sipush (x := 10000) zo_52_38 (by decide) rfl ?_
        refine ev_istore_n zo_52_41 rfl (zz_set rfl (by decide) (Nat.le_of_ble_eq_true rfl)) rfl ?_
        show zzEv _ _ _ [.ref 5, .int (10000 : Int32)] _ _ _
        exact G_X2_advanceWord_42 hd 4096 (10000 : Int32) q9.2 r h
      rw [if_neg c10] at h
      refine ev_if_f (t := 38) zo_52_22 rfl (zcm_neq c10) rfl ?_
      refine ev_aload_n zo_52_25 rfl rfl rfl rfl ?_
      refine ev_dup zo_52_26 rfl rfl ?_
      refine ev_getI zo_52_27 zf_52_30 (by decide) (Or.inl rfl) rfl rfl ?_
      refine ev_iconst (x := 1) zo_52_30 (by decide) rfl ?_
      refine ev_iadd zo_52_31 rfl ?_
      refine ev_putI zo_52_32 zf_52_30 (by decide) rfl rfl rfl rfl ?_
      refine ev_goto (t := 0) zo_52_35 rfl ?_
      exact ih (wI q9.2 5 4 ((q9.2.2 5 4) + (1 : Int32))) r h
    rw [if_neg c7] at h
    refine ev_cmp_t (t := 38) zo_52_8 rfl (zcm_ge c7) ?_
    refine ev_sipush (x := 10000) zo_52_38 (by decide) rfl ?_
    refine ev_istore_n zo_52_41 rfl (zz_set rfl (by decide) (Nat.le_of_ble_eq_true rfl)) rfl ?_
    show zzEv _ _ _ [.ref 5, .int (10000 : Int32)] _ _ _
    exact G_X2_advanceWord_42 hd 4096 (10000 : Int32) J r h
def F_X2_advanceWord (J : zzJ) : Option (zzJ) := F_X2_advanceWord_0 4096 J
set_option maxRecDepth 100000 in
set_option maxHeartbeats 2000000 in
theorem G_X2_advanceWord {d : Nat} (hd : 2 ≤ d) (J : zzJ) (r : zzJ) (h : F_X2_advanceWord J = some r) : zzEv d 52 0 [.ref 5, zzU] [] (zK J) (none, zK r) := by
  unfold F_X2_advanceWord at h
  exact G_X2_advanceWord_0 hd 4096 J r h
/-! X2_isDigit -/
def F_X2_isDigit (x0 : Int32) (J : zzJ) : Option (Int32 × zzJ) := (if x0 < (48 : Int32) then some ((0 : Int32), J) else (if (57 : Int32) < x0 then some ((0 : Int32), J) else some ((1 : Int32), J)))
set_option maxRecDepth 100000 in
set_option maxHeartbeats 2000000 in
theorem G_X2_isDigit {d : Nat} (hd : 0 ≤ d) (x0 : Int32) (J : zzJ) (r : Int32 × zzJ) (h : F_X2_isDigit x0 J = some r) : zzEv d 60 0 [.int x0] [] (zK J) (some (.int r.1), zK r.2) := by
  unfold F_X2_isDigit at h
  refine ev_iload_n zo_60_0 rfl rfl rfl ?_
  refine ev_bipush (x := 48) zo_60_1 (by decide) rfl ?_
  by_cases c1 : x0 < (48 : Int32)
  · rw [if_pos c1] at h
    refine ev_cmp_t (t := 16) zo_60_3 rfl (zcm_lt c1) ?_
    refine ev_iconst (x := 0) zo_60_16 (by decide) rfl ?_
    obtain rfl := Option.some.inj h
    exact ev_retZ zo_60_17 zr_60 (Or.inl rfl)
  rw [if_neg c1] at h
  refine ev_cmp_f (t := 16) zo_60_3 rfl (zcm_nlt c1) rfl ?_
  refine ev_iload_n zo_60_6 rfl rfl rfl ?_
  refine ev_bipush (x := 57) zo_60_7 (by decide) rfl ?_
  by_cases c2 : (57 : Int32) < x0
  · rw [if_pos c2] at h
    refine ev_cmp_t (t := 16) zo_60_9 rfl (zcm_gt c2) ?_
    refine ev_iconst (x := 0) zo_60_16 (by decide) rfl ?_
    obtain rfl := Option.some.inj h
    exact ev_retZ zo_60_17 zr_60 (Or.inl rfl)
  rw [if_neg c2] at h
  refine ev_cmp_f (t := 16) zo_60_9 rfl (zcm_ngt c2) rfl ?_
  refine ev_iconst (x := 1) zo_60_12 (by decide) rfl ?_
  refine ev_goto (t := 17) zo_60_13 rfl ?_
  obtain rfl := Option.some.inj h
  exact ev_retZ zo_60_17 zr_60 (Or.inr rfl)
/-! X2_advanceNumber -/
def F_X2_advanceNumber_57 (l1 : Int32) (J : zzJ) : Option (zzJ) := (if (4 : Int32) < (((wI J 5 5 l1).2 5 4) - ((wI J 5 5 l1).2 5 3)) then (Option.bind (F_X2_fail (wI J 5 5 l1)) fun q2 => some q2) else some (wI J 5 5 l1))
set_option maxRecDepth 100000 in
set_option maxHeartbeats 2000000 in
theorem G_X2_advanceNumber_57 {d : Nat} (hd : 1 ≤ d) : ∀ (l1 : Int32) (J : zzJ) (r : zzJ), F_X2_advanceNumber_57 l1 J = some r → zzEv d 55 57 [.ref 5, .int l1] [] (zK J) (none, zK r) := by
  intro l1 J r h
  unfold F_X2_advanceNumber_57 at h
  refine ev_aload_n zo_55_57 rfl rfl rfl rfl ?_
  refine ev_iload_n zo_55_58 rfl rfl rfl ?_
  refine ev_putI zo_55_59 zf_55_51 (by decide) rfl rfl rfl rfl ?_
  refine ev_aload_n zo_55_62 rfl rfl rfl rfl ?_
  refine ev_getI zo_55_63 zf_55_30 (by decide) (Or.inl rfl) rfl rfl ?_
  refine ev_aload_n zo_55_66 rfl rfl rfl rfl ?_
  refine ev_getI zo_55_67 zf_55_82 (by decide) (Or.inl rfl) rfl rfl ?_
  refine ev_isub zo_55_70 rfl ?_
  refine ev_iconst (x := 4) zo_55_71 (by decide) rfl ?_
  by_cases c1 : (4 : Int32) < (((wI J 5 5 l1).2 5 4) - ((wI J 5 5 l1).2 5 3))
  · rw [if_pos c1] at h
    refine ev_cmp_f (t := 79) zo_55_72 rfl (zcm_nle c1) rfl ?_
    refine ev_aload_n zo_55_75 rfl rfl rfl rfl ?_
    obtain ⟨q2, hq2, h⟩ := zz_bd h
    refine ev_cV (as := []) (lsn := [.ref 5]) (by omega) zo_55_76 zl_55_54 (by rw [zm_50]; rfl) (by rw [zm_50]; exact rfl) (by rw [zm_50]; decide) (by unfold zzIn; rw [zm_50]; rfl) (by rw [zm_50]; exact Nat.le_of_ble_eq_true rfl) (Nat.le_of_ble_eq_true rfl) (G_X2_fail (by omega) (wI J 5 5 l1) q2 hq2) rfl ?_
    show zzEv _ _ _ _ [] _ _
    obtain rfl := Option.some.inj h
    exact ev_retV zo_55_79 zr_55
  rw [if_neg c1] at h
  refine ev_cmp_t (t := 79) zo_55_72 rfl (zcm_le c1) ?_
  obtain rfl := Option.some.inj h
  exact ev_retV zo_55_79 zr_55
def F_X2_advanceNumber_2 : Nat → Int32 → zzJ → Option (zzJ)
  | 0, _, _ => none
  | n + 1, l1, J => (if (J.2 5 4) < (J.2 5 2) then (Option.bind (F_X2_byteAt (J.2 5 4) J) fun q4 => (Option.bind (F_X2_isDigit q4.1 q4.2) fun q5 => (if q5.1 = (0 : Int32) then F_X2_advanceNumber_57 l1 q5.2 else (Option.bind (F_X2_byteAt (q5.2.2 5 4) q5.2) fun q7 => F_X2_advanceNumber_2 n (((l1 * (10 : Int32)) + q7.1) - (48 : Int32)) (wI q7.2 5 4 ((q7.2.2 5 4) + (1 : Int32))))))) else F_X2_advanceNumber_57 l1 J)
set_option maxRecDepth 100000 in
set_option maxHeartbeats 2000000 in
theorem G_X2_advanceNumber_2 {d : Nat} (hd : 1 ≤ d) : ∀ (n : Nat) (l1 : Int32) (J : zzJ) (r : zzJ), F_X2_advanceNumber_2 n l1 J = some r → zzEv d 55 2 [.ref 5, .int l1] [] (zK J) (none, zK r) := by
  intro n
  induction n with
  | zero => intro l1 J r h; simp [F_X2_advanceNumber_2] at h
  | succ n ih =>
    intro l1 J r h
    rw [F_X2_advanceNumber_2] at h
    refine ev_aload_n zo_55_2 rfl rfl rfl rfl ?_
    refine ev_getI zo_55_3 zf_55_30 (by decide) (Or.inl rfl) rfl rfl ?_
    refine ev_aload_n zo_55_6 rfl rfl rfl rfl ?_
    refine ev_getI zo_55_7 zf_55_19 (by decide) (Or.inl rfl) rfl rfl ?_
    by_cases c3 : (J.2 5 4) < (J.2 5 2)
    · rw [if_pos c3] at h
      refine ev_cmp_f (t := 57) zo_55_10 rfl (zcm_nge c3) rfl ?_
      refine ev_aload_n zo_55_13 rfl rfl rfl rfl ?_
      refine ev_aload_n zo_55_14 rfl rfl rfl rfl ?_
      refine ev_getI zo_55_15 zf_55_30 (by decide) (Or.inl rfl) rfl rfl ?_
      obtain ⟨q4, hq4, h⟩ := zz_bd h
      refine ev_cV (as := [.int (J.2 5 4)]) (lsn := [.ref 5, .int (J.2 5 4)]) (by omega) zo_55_18 zl_55_85 (by rw [zm_57]; rfl) (by rw [zm_57]; exact rfl) (by rw [zm_57]; decide) (by unfold zzIn; rw [zm_57]; rfl) (by rw [zm_57]; exact Nat.le_of_ble_eq_true rfl) (Nat.le_of_ble_eq_true rfl) (G_X2_byteAt (by omega) (J.2 5 4) J q4 hq4) rfl ?_
      show zzEv _ _ _ _ [.int q4.1] _ _
      obtain ⟨q5, hq5, h⟩ := zz_bd h
      refine ev_cS (as := [.int q4.1]) (lsn := [.int q4.1]) (by omega) zo_55_21 zl_55_98 (by decide) (by rw [zm_60]; rfl) (by unfold zzIn; rw [zm_60]; rfl) (by rw [zm_60]; exact Nat.le_of_ble_eq_true rfl) (Nat.le_of_ble_eq_true rfl) (G_X2_isDigit (by omega) q4.1 q4.2 q5 hq5) rfl ?_
      show zzEv _ _ _ _ [.int q5.1] _ _
      by_cases c6 : q5.1 = (0 : Int32)
      · rw [if_pos c6] at h
        refine ev_if_t (t := 57) zo_55_24 rfl (zcm_eq c6) ?_
        exact G_X2_advanceNumber_57 hd l1 q5.2 r h
      rw [if_neg c6] at h
      refine ev_if_f (t := 57) zo_55_24 rfl (zcm_neq c6) rfl ?_
      refine ev_iload_n zo_55_27 rfl rfl rfl ?_
      refine ev_bipush (x := 10) zo_55_28 (by decide) rfl ?_
      refine ev_imul zo_55_30 rfl ?_
      refine ev_aload_n zo_55_31 rfl rfl rfl rfl ?_
      refine ev_aload_n zo_55_32 rfl rfl rfl rfl ?_
      refine ev_getI zo_55_33 zf_55_30 (by decide) (Or.inl rfl) rfl rfl ?_
      obtain ⟨q7, hq7, h⟩ := zz_bd h
      refine ev_cV (as := [.int (q5.2.2 5 4)]) (lsn := [.ref 5, .int (q5.2.2 5 4)]) (by omega) zo_55_36 zl_55_85 (by rw [zm_57]; rfl) (by rw [zm_57]; exact rfl) (by rw [zm_57]; decide) (by unfold zzIn; rw [zm_57]; rfl) (by rw [zm_57]; exact Nat.le_of_ble_eq_true rfl) (Nat.le_of_ble_eq_true rfl) (G_X2_byteAt (by omega) (q5.2.2 5 4) q5.2 q7 hq7) rfl ?_
      show zzEv _ _ _ _ [.int q7.1, .int (l1 * (10 : Int32))] _ _
      refine ev_iadd zo_55_39 rfl ?_
      refine ev_bipush (x := 48) zo_55_40 (by decide) rfl ?_
      refine ev_isub zo_55_42 rfl ?_
      refine ev_istore_n zo_55_43 rfl (zz_set rfl (by decide) (Nat.le_of_ble_eq_true rfl)) rfl ?_
      show zzEv _ _ _ [.ref 5, .int (((l1 * (10 : Int32)) + q7.1) - (48 : Int32))] _ _ _
      refine ev_aload_n zo_55_44 rfl rfl rfl rfl ?_
      refine ev_dup zo_55_45 rfl rfl ?_
      refine ev_getI zo_55_46 zf_55_30 (by decide) (Or.inl rfl) rfl rfl ?_
      refine ev_iconst (x := 1) zo_55_49 (by decide) rfl ?_
      refine ev_iadd zo_55_50 rfl ?_
      refine ev_putI zo_55_51 zf_55_30 (by decide) rfl rfl rfl rfl ?_
      refine ev_goto (t := 2) zo_55_54 rfl ?_
      exact ih (((l1 * (10 : Int32)) + q7.1) - (48 : Int32)) (wI q7.2 5 4 ((q7.2.2 5 4) + (1 : Int32))) r h
    rw [if_neg c3] at h
    refine ev_cmp_t (t := 57) zo_55_10 rfl (zcm_ge c3) ?_
    exact G_X2_advanceNumber_57 hd l1 J r h
def F_X2_advanceNumber (J : zzJ) : Option (zzJ) := F_X2_advanceNumber_2 4096 (0 : Int32) J
set_option maxRecDepth 100000 in
set_option maxHeartbeats 2000000 in
theorem G_X2_advanceNumber {d : Nat} (hd : 1 ≤ d) (J : zzJ) (r : zzJ) (h : F_X2_advanceNumber J = some r) : zzEv d 55 0 [.ref 5, zzU] [] (zK J) (none, zK r) := by
  unfold F_X2_advanceNumber at h
  refine ev_iconst (x := 0) zo_55_0 (by decide) rfl ?_
  refine ev_istore_n zo_55_1 rfl (zz_set rfl (by decide) (Nat.le_of_ble_eq_true rfl)) rfl ?_
  show zzEv _ _ _ [.ref 5, .int (0 : Int32)] _ _ _
  exact G_X2_advanceNumber_2 hd 4096 (0 : Int32) J r h
/-! X2_advanceSign -/
def F_X2_advanceSign (x1 : Int32) (J : zzJ) : Option (zzJ) := (if x1 = 40 then some (wI (wI J 5 4 ((J.2 5 4) + (1 : Int32))) 5 5 ((11000 : Int32) + x1)) else (if x1 = 41 then some (wI (wI J 5 4 ((J.2 5 4) + (1 : Int32))) 5 5 ((11000 : Int32) + x1)) else (if x1 = 42 then some (wI (wI J 5 4 ((J.2 5 4) + (1 : Int32))) 5 5 ((11000 : Int32) + x1)) else (if x1 = 43 then some (wI (wI J 5 4 ((J.2 5 4) + (1 : Int32))) 5 5 ((11000 : Int32) + x1)) else (if x1 = 44 then (Option.bind (F_X2_fail (wI J 5 4 ((J.2 5 4) + (1 : Int32)))) fun q6 => some q6) else (if x1 = 45 then some (wI (wI J 5 4 ((J.2 5 4) + (1 : Int32))) 5 5 ((11000 : Int32) + x1)) else (if x1 = 46 then (Option.bind (F_X2_fail (wI J 5 4 ((J.2 5 4) + (1 : Int32)))) fun q9 => some q9) else (if x1 = 47 then (Option.bind (F_X2_fail (wI J 5 4 ((J.2 5 4) + (1 : Int32)))) fun q11 => some q11) else (if x1 = 48 then (Option.bind (F_X2_fail (wI J 5 4 ((J.2 5 4) + (1 : Int32)))) fun q13 => some q13) else (if x1 = 49 then (Option.bind (F_X2_fail (wI J 5 4 ((J.2 5 4) + (1 : Int32)))) fun q15 => some q15) else (if x1 = 50 then (Option.bind (F_X2_fail (wI J 5 4 ((J.2 5 4) + (1 : Int32)))) fun q17 => some q17) else (if x1 = 51 then (Option.bind (F_X2_fail (wI J 5 4 ((J.2 5 4) + (1 : Int32)))) fun q19 => some q19) else (if x1 = 52 then (Option.bind (F_X2_fail (wI J 5 4 ((J.2 5 4) + (1 : Int32)))) fun q21 => some q21) else (if x1 = 53 then (Option.bind (F_X2_fail (wI J 5 4 ((J.2 5 4) + (1 : Int32)))) fun q23 => some q23) else (if x1 = 54 then (Option.bind (F_X2_fail (wI J 5 4 ((J.2 5 4) + (1 : Int32)))) fun q25 => some q25) else (if x1 = 55 then (Option.bind (F_X2_fail (wI J 5 4 ((J.2 5 4) + (1 : Int32)))) fun q27 => some q27) else (if x1 = 56 then (Option.bind (F_X2_fail (wI J 5 4 ((J.2 5 4) + (1 : Int32)))) fun q29 => some q29) else (if x1 = 57 then (Option.bind (F_X2_fail (wI J 5 4 ((J.2 5 4) + (1 : Int32)))) fun q31 => some q31) else (if x1 = 58 then (Option.bind (F_X2_fail (wI J 5 4 ((J.2 5 4) + (1 : Int32)))) fun q33 => some q33) else (if x1 = 59 then some (wI (wI J 5 4 ((J.2 5 4) + (1 : Int32))) 5 5 ((11000 : Int32) + x1)) else (if x1 = 60 then some (wI (wI J 5 4 ((J.2 5 4) + (1 : Int32))) 5 5 ((11000 : Int32) + x1)) else (if x1 = 61 then some (wI (wI J 5 4 ((J.2 5 4) + (1 : Int32))) 5 5 ((11000 : Int32) + x1)) else (Option.bind (F_X2_fail (wI J 5 4 ((J.2 5 4) + (1 : Int32)))) fun q37 => some q37)))))))))))))))))))))))
set_option maxRecDepth 100000 in
set_option maxHeartbeats 2000000 in
theorem G_X2_advanceSign {d : Nat} (hd : 1 ≤ d) (x1 : Int32) (J : zzJ) (r : zzJ) (h : F_X2_advanceSign x1 J = some r) : zzEv d 56 0 [.ref 5, .int x1] [] (zK J) (none, zK r) := by
  unfold F_X2_advanceSign at h
  refine ev_aload_n zo_56_0 rfl rfl rfl rfl ?_
  refine ev_dup zo_56_1 rfl rfl ?_
  refine ev_getI zo_56_2 zf_56_30 (by decide) (Or.inl rfl) rfl rfl ?_
  refine ev_iconst (x := 1) zo_56_5 (by decide) rfl ?_
  refine ev_iadd zo_56_6 rfl ?_
  refine ev_putI zo_56_7 zf_56_30 (by decide) rfl rfl rfl rfl ?_
  refine ev_iload_n zo_56_10 rfl rfl rfl ?_
  by_cases s1 : x1 = 40
  · rw [if_pos s1] at h
    refine ev_tableIn (t := 112) zo_56_11 s1 rfl ?_
    refine ev_aload_n zo_56_112 rfl rfl rfl rfl ?_
    refine ev_sipush (x := 11000) zo_56_113 (by decide) rfl ?_
    refine ev_iload_n zo_56_116 rfl rfl rfl ?_
    refine ev_iadd zo_56_117 rfl ?_
    refine ev_putI zo_56_118 zf_56_51 (by decide) rfl rfl rfl rfl ?_
    refine ev_goto (t := 128) zo_56_121 rfl ?_
    obtain rfl := Option.some.inj h
    exact ev_retV zo_56_128 zr_56
  rw [if_neg s1] at h
  by_cases s2 : x1 = 41
  · rw [if_pos s2] at h
    refine ev_tableIn (t := 112) zo_56_11 s2 rfl ?_
    refine ev_aload_n zo_56_112 rfl rfl rfl rfl ?_
    refine ev_sipush (x := 11000) zo_56_113 (by decide) rfl ?_
    refine ev_iload_n zo_56_116 rfl rfl rfl ?_
    refine ev_iadd zo_56_117 rfl ?_
    refine ev_putI zo_56_118 zf_56_51 (by decide) rfl rfl rfl rfl ?_
    refine ev_goto (t := 128) zo_56_121 rfl ?_
    obtain rfl := Option.some.inj h
    exact ev_retV zo_56_128 zr_56
  rw [if_neg s2] at h
  by_cases s3 : x1 = 42
  · rw [if_pos s3] at h
    refine ev_tableIn (t := 112) zo_56_11 s3 rfl ?_
    refine ev_aload_n zo_56_112 rfl rfl rfl rfl ?_
    refine ev_sipush (x := 11000) zo_56_113 (by decide) rfl ?_
    refine ev_iload_n zo_56_116 rfl rfl rfl ?_
    refine ev_iadd zo_56_117 rfl ?_
    refine ev_putI zo_56_118 zf_56_51 (by decide) rfl rfl rfl rfl ?_
    refine ev_goto (t := 128) zo_56_121 rfl ?_
    obtain rfl := Option.some.inj h
    exact ev_retV zo_56_128 zr_56
  rw [if_neg s3] at h
  by_cases s4 : x1 = 43
  · rw [if_pos s4] at h
    refine ev_tableIn (t := 112) zo_56_11 s4 rfl ?_
    refine ev_aload_n zo_56_112 rfl rfl rfl rfl ?_
    refine ev_sipush (x := 11000) zo_56_113 (by decide) rfl ?_
    refine ev_iload_n zo_56_116 rfl rfl rfl ?_
    refine ev_iadd zo_56_117 rfl ?_
    refine ev_putI zo_56_118 zf_56_51 (by decide) rfl rfl rfl rfl ?_
    refine ev_goto (t := 128) zo_56_121 rfl ?_
    obtain rfl := Option.some.inj h
    exact ev_retV zo_56_128 zr_56
  rw [if_neg s4] at h
  by_cases s5 : x1 = 44
  · rw [if_pos s5] at h
    refine ev_tableIn (t := 124) zo_56_11 s5 rfl ?_
    refine ev_aload_n zo_56_124 rfl rfl rfl rfl ?_
    obtain ⟨q6, hq6, h⟩ := zz_bd h
    refine ev_cV (as := []) (lsn := [.ref 5]) (by omega) zo_56_125 zl_56_54 (by rw [zm_50]; rfl) (by rw [zm_50]; exact rfl) (by rw [zm_50]; decide) (by unfold zzIn; rw [zm_50]; rfl) (by rw [zm_50]; exact Nat.le_of_ble_eq_true rfl) (Nat.le_of_ble_eq_true rfl) (G_X2_fail (by omega) (wI J 5 4 ((J.2 5 4) + (1 : Int32))) q6 hq6) rfl ?_
    show zzEv _ _ _ _ [] _ _
    obtain rfl := Option.some.inj h
    exact ev_retV zo_56_128 zr_56
  rw [if_neg s5] at h
  by_cases s7 : x1 = 45
  · rw [if_pos s7] at h
    refine ev_tableIn (t := 112) zo_56_11 s7 rfl ?_
    refine ev_aload_n zo_56_112 rfl rfl rfl rfl ?_
    refine ev_sipush (x := 11000) zo_56_113 (by decide) rfl ?_
    refine ev_iload_n zo_56_116 rfl rfl rfl ?_
    refine ev_iadd zo_56_117 rfl ?_
    refine ev_putI zo_56_118 zf_56_51 (by decide) rfl rfl rfl rfl ?_
    refine ev_goto (t := 128) zo_56_121 rfl ?_
    obtain rfl := Option.some.inj h
    exact ev_retV zo_56_128 zr_56
  rw [if_neg s7] at h
  by_cases s8 : x1 = 46
  · rw [if_pos s8] at h
    refine ev_tableIn (t := 124) zo_56_11 s8 rfl ?_
    refine ev_aload_n zo_56_124 rfl rfl rfl rfl ?_
    obtain ⟨q9, hq9, h⟩ := zz_bd h
    refine ev_cV (as := []) (lsn := [.ref 5]) (by omega) zo_56_125 zl_56_54 (by rw [zm_50]; rfl) (by rw [zm_50]; exact rfl) (by rw [zm_50]; decide) (by unfold zzIn; rw [zm_50]; rfl) (by rw [zm_50]; exact Nat.le_of_ble_eq_true rfl) (Nat.le_of_ble_eq_true rfl) (G_X2_fail (by omega) (wI J 5 4 ((J.2 5 4) + (1 : Int32))) q9 hq9) rfl ?_
    show zzEv _ _ _ _ [] _ _
    obtain rfl := Option.some.inj h
    exact ev_retV zo_56_128 zr_56
  rw [if_neg s8] at h
  by_cases s10 : x1 = 47
  · rw [if_pos s10] at h
    refine ev_tableIn (t := 124) zo_56_11 s10 rfl ?_
    refine ev_aload_n zo_56_124 rfl rfl rfl rfl ?_
    obtain ⟨q11, hq11, h⟩ := zz_bd h
    refine ev_cV (as := []) (lsn := [.ref 5]) (by omega) zo_56_125 zl_56_54 (by rw [zm_50]; rfl) (by rw [zm_50]; exact rfl) (by rw [zm_50]; decide) (by unfold zzIn; rw [zm_50]; rfl) (by rw [zm_50]; exact Nat.le_of_ble_eq_true rfl) (Nat.le_of_ble_eq_true rfl) (G_X2_fail (by omega) (wI J 5 4 ((J.2 5 4) + (1 : Int32))) q11 hq11) rfl ?_
    show zzEv _ _ _ _ [] _ _
    obtain rfl := Option.some.inj h
    exact ev_retV zo_56_128 zr_56
  rw [if_neg s10] at h
  by_cases s12 : x1 = 48
  · rw [if_pos s12] at h
    refine ev_tableIn (t := 124) zo_56_11 s12 rfl ?_
    refine ev_aload_n zo_56_124 rfl rfl rfl rfl ?_
    obtain ⟨q13, hq13, h⟩ := zz_bd h
    refine ev_cV (as := []) (lsn := [.ref 5]) (by omega) zo_56_125 zl_56_54 (by rw [zm_50]; rfl) (by rw [zm_50]; exact rfl) (by rw [zm_50]; decide) (by unfold zzIn; rw [zm_50]; rfl) (by rw [zm_50]; exact Nat.le_of_ble_eq_true rfl) (Nat.le_of_ble_eq_true rfl) (G_X2_fail (by omega) (wI J 5 4 ((J.2 5 4) + (1 : Int32))) q13 hq13) rfl ?_
    show zzEv _ _ _ _ [] _ _
    obtain rfl := Option.some.inj h
    exact ev_retV zo_56_128 zr_56
  rw [if_neg s12] at h
  by_cases s14 : x1 = 49
  · rw [if_pos s14] at h
    refine ev_tableIn (t := 124) zo_56_11 s14 rfl ?_
    refine ev_aload_n zo_56_124 rfl rfl rfl rfl ?_
    obtain ⟨q15, hq15, h⟩ := zz_bd h
    refine ev_cV (as := []) (lsn := [.ref 5]) (by omega) zo_56_125 zl_56_54 (by rw [zm_50]; rfl) (by rw [zm_50]; exact rfl) (by rw [zm_50]; decide) (by unfold zzIn; rw [zm_50]; rfl) (by rw [zm_50]; exact Nat.le_of_ble_eq_true rfl) (Nat.le_of_ble_eq_true rfl) (G_X2_fail (by omega) (wI J 5 4 ((J.2 5 4) + (1 : Int32))) q15 hq15) rfl ?_
    show zzEv _ _ _ _ [] _ _
    obtain rfl := Option.some.inj h
    exact ev_retV zo_56_128 zr_56
  rw [if_neg s14] at h
  by_cases s16 : x1 = 50
  · rw [if_pos s16] at h
    refine ev_tableIn (t := 124) zo_56_11 s16 rfl ?_
    refine ev_aload_n zo_56_124 rfl rfl rfl rfl ?_
    obtain ⟨q17, hq17, h⟩ := zz_bd h
    refine ev_cV (as := []) (lsn := [.ref 5]) (by omega) zo_56_125 zl_56_54 (by rw [zm_50]; rfl) (by rw [zm_50]; exact rfl) (by rw [zm_50]; decide) (by unfold zzIn; rw [zm_50]; rfl) (by rw [zm_50]; exact Nat.le_of_ble_eq_true rfl) (Nat.le_of_ble_eq_true rfl) (G_X2_fail (by omega) (wI J 5 4 ((J.2 5 4) + (1 : Int32))) q17 hq17) rfl ?_
    show zzEv _ _ _ _ [] _ _
    obtain rfl := Option.some.inj h
    exact ev_retV zo_56_128 zr_56
  rw [if_neg s16] at h
  by_cases s18 : x1 = 51
  · rw [if_pos s18] at h
    refine ev_tableIn (t := 124) zo_56_11 s18 rfl ?_
    refine ev_aload_n zo_56_124 rfl rfl rfl rfl ?_
    obtain ⟨q19, hq19, h⟩ := zz_bd h
    refine ev_cV (as := []) (lsn := [.ref 5]) (by omega) zo_56_125 zl_56_54 (by rw [zm_50]; rfl) (by rw [zm_50]; exact rfl) (by rw [zm_50]; decide) (by unfold zzIn; rw [zm_50]; rfl) (by rw [zm_50]; exact Nat.le_of_ble_eq_true rfl) (Nat.le_of_ble_eq_true rfl) (G_X2_fail (by omega) (wI J 5 4 ((J.2 5 4) + (1 : Int32))) q19 hq19) rfl ?_
    show zzEv _ _ _ _ [] _ _
    obtain rfl := Option.some.inj h
    exact ev_retV zo_56_128 zr_56
  rw [if_neg s18] at h
  by_cases s20 : x1 = 52
  · rw [if_pos s20] at h
    refine ev_tableIn (t := 124) zo_56_11 s20 rfl ?_
    refine ev_aload_n zo_56_124 rfl rfl rfl rfl ?_
    obtain ⟨q21, hq21, h⟩ := zz_bd h
    refine ev_cV (as := []) (lsn := [.ref 5]) (by omega) zo_56_125 zl_56_54 (by rw [zm_50]; rfl) (by rw [zm_50]; exact rfl) (by rw [zm_50]; decide) (by unfold zzIn; rw [zm_50]; rfl) (by rw [zm_50]; exact Nat.le_of_ble_eq_true rfl) (Nat.le_of_ble_eq_true rfl) (G_X2_fail (by omega) (wI J 5 4 ((J.2 5 4) + (1 : Int32))) q21 hq21) rfl ?_
    show zzEv _ _ _ _ [] _ _
    obtain rfl := Option.some.inj h
    exact ev_retV zo_56_128 zr_56
  rw [if_neg s20] at h
  by_cases s22 : x1 = 53
  · rw [if_pos s22] at h
    refine ev_tableIn (t := 124) zo_56_11 s22 rfl ?_
    refine ev_aload_n zo_56_124 rfl rfl rfl rfl ?_
    obtain ⟨q23, hq23, h⟩ := zz_bd h
    refine ev_cV (as := []) (lsn := [.ref 5]) (by omega) zo_56_125 zl_56_54 (by rw [zm_50]; rfl) (by rw [zm_50]; exact rfl) (by rw [zm_50]; decide) (by unfold zzIn; rw [zm_50]; rfl) (by rw [zm_50]; exact Nat.le_of_ble_eq_true rfl) (Nat.le_of_ble_eq_true rfl) (G_X2_fail (by omega) (wI J 5 4 ((J.2 5 4) + (1 : Int32))) q23 hq23) rfl ?_
    show zzEv _ _ _ _ [] _ _
    obtain rfl := Option.some.inj h
    exact ev_retV zo_56_128 zr_56
  rw [if_neg s22] at h
  by_cases s24 : x1 = 54
  · rw [if_pos s24] at h
    refine ev_tableIn (t := 124) zo_56_11 s24 rfl ?_
    refine ev_aload_n zo_56_124 rfl rfl rfl rfl ?_
    obtain ⟨q25, hq25, h⟩ := zz_bd h
    refine ev_cV (as := []) (lsn := [.ref 5]) (by omega) zo_56_125 zl_56_54 (by rw [zm_50]; rfl) (by rw [zm_50]; exact rfl) (by rw [zm_50]; decide) (by unfold zzIn; rw [zm_50]; rfl) (by rw [zm_50]; exact Nat.le_of_ble_eq_true rfl) (Nat.le_of_ble_eq_true rfl) (G_X2_fail (by omega) (wI J 5 4 ((J.2 5 4) + (1 : Int32))) q25 hq25) rfl ?_
    show zzEv _ _ _ _ [] _ _
    obtain rfl := Option.some.inj h
    exact ev_retV zo_56_128 zr_56
  rw [if_neg s24] at h
  by_cases s26 : x1 = 55
  · rw [if_pos s26] at h
    refine ev_tableIn (t := 124) zo_56_11 s26 rfl ?_
    refine ev_aload_n zo_56_124 rfl rfl rfl rfl ?_
    obtain ⟨q27, hq27, h⟩ := zz_bd h
    refine ev_cV (as := []) (lsn := [.ref 5]) (by omega) zo_56_125 zl_56_54 (by rw [zm_50]; rfl) (by rw [zm_50]; exact rfl) (by rw [zm_50]; decide) (by unfold zzIn; rw [zm_50]; rfl) (by rw [zm_50]; exact Nat.le_of_ble_eq_true rfl) (Nat.le_of_ble_eq_true rfl) (G_X2_fail (by omega) (wI J 5 4 ((J.2 5 4) + (1 : Int32))) q27 hq27) rfl ?_
    show zzEv _ _ _ _ [] _ _
    obtain rfl := Option.some.inj h
    exact ev_retV zo_56_128 zr_56
  rw [if_neg s26] at h
  by_cases s28 : x1 = 56
  · rw [if_pos s28] at h
    refine ev_tableIn (t := 124) zo_56_11 s28 rfl ?_
    refine ev_aload_n zo_56_124 rfl rfl rfl rfl ?_
    obtain ⟨q29, hq29, h⟩ := zz_bd h
    refine ev_cV (as := []) (lsn := [.ref 5]) (by omega) zo_56_125 zl_56_54 (by rw [zm_50]; rfl) (by rw [zm_50]; exact rfl) (by rw [zm_50]; decide) (by unfold zzIn; rw [zm_50]; rfl) (by rw [zm_50]; exact Nat.le_of_ble_eq_true rfl) (Nat.le_of_ble_eq_true rfl) (G_X2_fail (by omega) (wI J 5 4 ((J.2 5 4) + (1 : Int32))) q29 hq29) rfl ?_
    show zzEv _ _ _ _ [] _ _
    obtain rfl := Option.some.inj h
    exact ev_retV zo_56_128 zr_56
  rw [if_neg s28] at h
  by_cases s30 : x1 = 57
  · rw [if_pos s30] at h
    refine ev_tableIn (t := 124) zo_56_11 s30 rfl ?_
    refine ev_aload_n zo_56_124 rfl rfl rfl rfl ?_
    obtain ⟨q31, hq31, h⟩ := zz_bd h
    refine ev_cV (as := []) (lsn := [.ref 5]) (by omega) zo_56_125 zl_56_54 (by rw [zm_50]; rfl) (by rw [zm_50]; exact rfl) (by rw [zm_50]; decide) (by unfold zzIn; rw [zm_50]; rfl) (by rw [zm_50]; exact Nat.le_of_ble_eq_true rfl) (Nat.le_of_ble_eq_true rfl) (G_X2_fail (by omega) (wI J 5 4 ((J.2 5 4) + (1 : Int32))) q31 hq31) rfl ?_
    show zzEv _ _ _ _ [] _ _
    obtain rfl := Option.some.inj h
    exact ev_retV zo_56_128 zr_56
  rw [if_neg s30] at h
  by_cases s32 : x1 = 58
  · rw [if_pos s32] at h
    refine ev_tableIn (t := 124) zo_56_11 s32 rfl ?_
    refine ev_aload_n zo_56_124 rfl rfl rfl rfl ?_
    obtain ⟨q33, hq33, h⟩ := zz_bd h
    refine ev_cV (as := []) (lsn := [.ref 5]) (by omega) zo_56_125 zl_56_54 (by rw [zm_50]; rfl) (by rw [zm_50]; exact rfl) (by rw [zm_50]; decide) (by unfold zzIn; rw [zm_50]; rfl) (by rw [zm_50]; exact Nat.le_of_ble_eq_true rfl) (Nat.le_of_ble_eq_true rfl) (G_X2_fail (by omega) (wI J 5 4 ((J.2 5 4) + (1 : Int32))) q33 hq33) rfl ?_
    show zzEv _ _ _ _ [] _ _
    obtain rfl := Option.some.inj h
    exact ev_retV zo_56_128 zr_56
  rw [if_neg s32] at h
  by_cases s34 : x1 = 59
  · rw [if_pos s34] at h
    refine ev_tableIn (t := 112) zo_56_11 s34 rfl ?_
    refine ev_aload_n zo_56_112 rfl rfl rfl rfl ?_
    refine ev_sipush (x := 11000) zo_56_113 (by decide) rfl ?_
    refine ev_iload_n zo_56_116 rfl rfl rfl ?_
    refine ev_iadd zo_56_117 rfl ?_
    refine ev_putI zo_56_118 zf_56_51 (by decide) rfl rfl rfl rfl ?_
    refine ev_goto (t := 128) zo_56_121 rfl ?_
    obtain rfl := Option.some.inj h
    exact ev_retV zo_56_128 zr_56
  rw [if_neg s34] at h
  by_cases s35 : x1 = 60
  · rw [if_pos s35] at h
    refine ev_tableIn (t := 112) zo_56_11 s35 rfl ?_
    refine ev_aload_n zo_56_112 rfl rfl rfl rfl ?_
    refine ev_sipush (x := 11000) zo_56_113 (by decide) rfl ?_
    refine ev_iload_n zo_56_116 rfl rfl rfl ?_
    refine ev_iadd zo_56_117 rfl ?_
    refine ev_putI zo_56_118 zf_56_51 (by decide) rfl rfl rfl rfl ?_
    refine ev_goto (t := 128) zo_56_121 rfl ?_
    obtain rfl := Option.some.inj h
    exact ev_retV zo_56_128 zr_56
  rw [if_neg s35] at h
  by_cases s36 : x1 = 61
  · rw [if_pos s36] at h
    refine ev_tableIn (t := 112) zo_56_11 s36 rfl ?_
    refine ev_aload_n zo_56_112 rfl rfl rfl rfl ?_
    refine ev_sipush (x := 11000) zo_56_113 (by decide) rfl ?_
    refine ev_iload_n zo_56_116 rfl rfl rfl ?_
    refine ev_iadd zo_56_117 rfl ?_
    refine ev_putI zo_56_118 zf_56_51 (by decide) rfl rfl rfl rfl ?_
    refine ev_goto (t := 128) zo_56_121 rfl ?_
    obtain rfl := Option.some.inj h
    exact ev_retV zo_56_128 zr_56
  rw [if_neg s36] at h
  refine ev_tableOut (t := 124) zo_56_11 (sw_out 22 rfl fun k hk => ?_) rfl ?_
  · rcases (show k = 0 ∨ k = 1 ∨ k = 2 ∨ k = 3 ∨ k = 4 ∨ k = 5 ∨ k = 6 ∨ k = 7 ∨ k = 8 ∨ k = 9 ∨ k = 10 ∨ k = 11 ∨ k = 12 ∨ k = 13 ∨ k = 14 ∨ k = 15 ∨ k = 16 ∨ k = 17 ∨ k = 18 ∨ k = 19 ∨ k = 20 ∨ k = 21 by omega) with rfl | rfl | rfl | rfl | rfl | rfl | rfl | rfl | rfl | rfl | rfl | rfl | rfl | rfl | rfl | rfl | rfl | rfl | rfl | rfl | rfl | rfl
    · exact sw_ne s1 (by decide)
    · exact sw_ne s2 (by decide)
    · exact sw_ne s3 (by decide)
    · exact sw_ne s4 (by decide)
    · exact sw_ne s5 (by decide)
    · exact sw_ne s7 (by decide)
    · exact sw_ne s8 (by decide)
    · exact sw_ne s10 (by decide)
    · exact sw_ne s12 (by decide)
    · exact sw_ne s14 (by decide)
    · exact sw_ne s16 (by decide)
    · exact sw_ne s18 (by decide)
    · exact sw_ne s20 (by decide)
    · exact sw_ne s22 (by decide)
    · exact sw_ne s24 (by decide)
    · exact sw_ne s26 (by decide)
    · exact sw_ne s28 (by decide)
    · exact sw_ne s30 (by decide)
    · exact sw_ne s32 (by decide)
    · exact sw_ne s34 (by decide)
    · exact sw_ne s35 (by decide)
    · exact sw_ne s36 (by decide)
  refine ev_aload_n zo_56_124 rfl rfl rfl rfl ?_
  obtain ⟨q37, hq37, h⟩ := zz_bd h
  refine ev_cV (as := []) (lsn := [.ref 5]) (by omega) zo_56_125 zl_56_54 (by rw [zm_50]; rfl) (by rw [zm_50]; exact rfl) (by rw [zm_50]; decide) (by unfold zzIn; rw [zm_50]; rfl) (by rw [zm_50]; exact Nat.le_of_ble_eq_true rfl) (Nat.le_of_ble_eq_true rfl) (G_X2_fail (by omega) (wI J 5 4 ((J.2 5 4) + (1 : Int32))) q37 hq37) rfl ?_
  show zzEv _ _ _ _ [] _ _
  obtain rfl := Option.some.inj h
  exact ev_retV zo_56_128 zr_56
/-! X2_isBlank -/
def F_X2_isBlank (x0 : Int32) (J : zzJ) : Option (Int32 × zzJ) := (if x0 = (32 : Int32) then some ((1 : Int32), J) else (if x0 = (10 : Int32) then some ((1 : Int32), J) else some ((0 : Int32), J)))
set_option maxRecDepth 100000 in
set_option maxHeartbeats 2000000 in
theorem G_X2_isBlank {d : Nat} (hd : 0 ≤ d) (x0 : Int32) (J : zzJ) (r : Int32 × zzJ) (h : F_X2_isBlank x0 J = some r) : zzEv d 58 0 [.int x0] [] (zK J) (some (.int r.1), zK r.2) := by
  unfold F_X2_isBlank at h
  refine ev_iload_n zo_58_0 rfl rfl rfl ?_
  refine ev_bipush (x := 32) zo_58_1 (by decide) rfl ?_
  by_cases c1 : x0 = (32 : Int32)
  · rw [if_pos c1] at h
    refine ev_cmp_t (t := 12) zo_58_3 rfl (zcm_eq c1) ?_
    refine ev_iconst (x := 1) zo_58_12 (by decide) rfl ?_
    refine ev_goto (t := 17) zo_58_13 rfl ?_
    obtain rfl := Option.some.inj h
    exact ev_retZ zo_58_17 zr_58 (Or.inr rfl)
  rw [if_neg c1] at h
  refine ev_cmp_f (t := 12) zo_58_3 rfl (zcm_neq c1) rfl ?_
  refine ev_iload_n zo_58_6 rfl rfl rfl ?_
  refine ev_bipush (x := 10) zo_58_7 (by decide) rfl ?_
  by_cases c2 : x0 = (10 : Int32)
  · rw [if_pos c2] at h
    refine ev_cmp_f (t := 16) zo_58_9 rfl (zcm_nne c2) rfl ?_
    refine ev_iconst (x := 1) zo_58_12 (by decide) rfl ?_
    refine ev_goto (t := 17) zo_58_13 rfl ?_
    obtain rfl := Option.some.inj h
    exact ev_retZ zo_58_17 zr_58 (Or.inr rfl)
  rw [if_neg c2] at h
  refine ev_cmp_t (t := 16) zo_58_9 rfl (zcm_ne c2) ?_
  refine ev_iconst (x := 0) zo_58_16 (by decide) rfl ?_
  obtain rfl := Option.some.inj h
  exact ev_retZ zo_58_17 zr_58 (Or.inl rfl)
/-! X2_advance -/
def F_X2_advance_38 (J : zzJ) : Option (zzJ) := (Option.bind (F_X2_byteAt ((wI J 5 3 (J.2 5 4)).2 5 4) (wI J 5 3 (J.2 5 4))) fun q1 => (if q1.1 = (-1 : Int32) then some (wI q1.2 5 5 (-1 : Int32)) else (Option.bind (F_X2_isLetter q1.1 q1.2) fun q3 => (if q3.1 = (0 : Int32) then (Option.bind (F_X2_isDigit q1.1 q3.2) fun q5 => (if q5.1 = (0 : Int32) then (Option.bind (F_X2_advanceSign q1.1 q5.2) fun q7 => some q7) else (Option.bind (F_X2_advanceNumber q5.2) fun q8 => some q8))) else (Option.bind (F_X2_advanceWord q3.2) fun q9 => some q9)))))
set_option maxRecDepth 100000 in
set_option maxHeartbeats 2000000 in
theorem G_X2_advance_38 {d : Nat} (hd : 3 ≤ d) : ∀ (J : zzJ) (r : zzJ), F_X2_advance_38 J = some r → zzEv d 51 38 [.ref 5, zzU] [] (zK J) (none, zK r) := by
  intro J r h
  unfold F_X2_advance_38 at h
  refine ev_aload_n zo_51_38 rfl rfl rfl rfl ?_
  refine ev_aload_n zo_51_39 rfl rfl rfl rfl ?_
  refine ev_getI zo_51_40 zf_51_30 (by decide) (Or.inl rfl) rfl rfl ?_
  refine ev_putI zo_51_43 zf_51_82 (by decide) rfl rfl rfl rfl ?_
  refine ev_aload_n zo_51_46 rfl rfl rfl rfl ?_
  refine ev_aload_n zo_51_47 rfl rfl rfl rfl ?_
  refine ev_getI zo_51_48 zf_51_30 (by decide) (Or.inl rfl) rfl rfl ?_
  obtain ⟨q1, hq1, h⟩ := zz_bd h
  refine ev_cV (as := [.int ((wI J 5 3 (J.2 5 4)).2 5 4)]) (lsn := [.ref 5, .int ((wI J 5 3 (J.2 5 4)).2 5 4)]) (by omega) zo_51_51 zl_51_85 (by rw [zm_57]; rfl) (by rw [zm_57]; exact rfl) (by rw [zm_57]; decide) (by unfold zzIn; rw [zm_57]; rfl) (by rw [zm_57]; exact Nat.le_of_ble_eq_true rfl) (Nat.le_of_ble_eq_true rfl) (G_X2_byteAt (by omega) ((wI J 5 3 (J.2 5 4)).2 5 4) (wI J 5 3 (J.2 5 4)) q1 hq1) rfl ?_
  show zzEv _ _ _ _ [.int q1.1] _ _
  refine ev_istore_n zo_51_54 rfl (zz_set rfl (by decide) (Nat.le_of_ble_eq_true rfl)) rfl ?_
  show zzEv _ _ _ [.ref 5, .int q1.1] _ _ _
  refine ev_iload_n zo_51_55 rfl rfl rfl ?_
  refine ev_iconst (x := (-1)) zo_51_56 (by decide) rfl ?_
  by_cases c2 : q1.1 = (-1 : Int32)
  · rw [if_pos c2] at h
    refine ev_cmp_f (t := 68) zo_51_57 rfl (zcm_nne c2) rfl ?_
    refine ev_aload_n zo_51_60 rfl rfl rfl rfl ?_
    refine ev_iconst (x := (-1)) zo_51_61 (by decide) rfl ?_
    refine ev_putI zo_51_62 zf_51_51 (by decide) rfl rfl rfl rfl ?_
    refine ev_goto (t := 101) zo_51_65 rfl ?_
    obtain rfl := Option.some.inj h
    exact ev_retV zo_51_101 zr_51
  rw [if_neg c2] at h
  refine ev_cmp_t (t := 68) zo_51_57 rfl (zcm_ne c2) ?_
  refine ev_iload_n zo_51_68 rfl rfl rfl ?_
  obtain ⟨q3, hq3, h⟩ := zz_bd h
  refine ev_cS (as := [.int q1.1]) (lsn := [.int q1.1]) (by omega) zo_51_69 zl_51_92 (by decide) (by rw [zm_59]; rfl) (by unfold zzIn; rw [zm_59]; rfl) (by rw [zm_59]; exact Nat.le_of_ble_eq_true rfl) (Nat.le_of_ble_eq_true rfl) (G_X2_isLetter (by omega) q1.1 q1.2 q3 hq3) rfl ?_
  show zzEv _ _ _ _ [.int q3.1] _ _
  by_cases c4 : q3.1 = (0 : Int32)
  · rw [if_pos c4] at h
    refine ev_if_t (t := 82) zo_51_72 rfl (zcm_eq c4) ?_
    refine ev_iload_n zo_51_82 rfl rfl rfl ?_
    obtain ⟨q5, hq5, h⟩ := zz_bd h
    refine ev_cS (as := [.int q1.1]) (lsn := [.int q1.1]) (by omega) zo_51_83 zl_51_98 (by decide) (by rw [zm_60]; rfl) (by unfold zzIn; rw [zm_60]; rfl) (by rw [zm_60]; exact Nat.le_of_ble_eq_true rfl) (Nat.le_of_ble_eq_true rfl) (G_X2_isDigit (by omega) q1.1 q3.2 q5 hq5) rfl ?_
    show zzEv _ _ _ _ [.int q5.1] _ _
    by_cases c6 : q5.1 = (0 : Int32)
    · rw [if_pos c6] at h
      refine ev_if_t (t := 96) zo_51_86 rfl (zcm_eq c6) ?_
      refine ev_aload_n zo_51_96 rfl rfl rfl rfl ?_
      refine ev_iload_n zo_51_97 rfl rfl rfl ?_
      obtain ⟨q7, hq7, h⟩ := zz_bd h
      refine ev_cV (as := [.int q1.1]) (lsn := [.ref 5, .int q1.1]) (by omega) zo_51_98 zl_51_104 (by rw [zm_56]; rfl) (by rw [zm_56]; exact rfl) (by rw [zm_56]; decide) (by unfold zzIn; rw [zm_56]; rfl) (by rw [zm_56]; exact Nat.le_of_ble_eq_true rfl) (Nat.le_of_ble_eq_true rfl) (G_X2_advanceSign (by omega) q1.1 q5.2 q7 hq7) rfl ?_
      show zzEv _ _ _ _ [] _ _
      obtain rfl := Option.some.inj h
      exact ev_retV zo_51_101 zr_51
    rw [if_neg c6] at h
    refine ev_if_f (t := 96) zo_51_86 rfl (zcm_neq c6) rfl ?_
    refine ev_aload_n zo_51_89 rfl rfl rfl rfl ?_
    obtain ⟨q8, hq8, h⟩ := zz_bd h
    refine ev_cV (as := []) (lsn := [.ref 5, zzU]) (by omega) zo_51_90 zl_51_101 (by rw [zm_55]; rfl) (by rw [zm_55]; exact rfl) (by rw [zm_55]; decide) (by unfold zzIn; rw [zm_55]; rfl) (by rw [zm_55]; exact Nat.le_of_ble_eq_true rfl) (Nat.le_of_ble_eq_true rfl) (G_X2_advanceNumber (by omega) q5.2 q8 hq8) rfl ?_
    show zzEv _ _ _ _ [] _ _
    refine ev_goto (t := 101) zo_51_93 rfl ?_
    obtain rfl := Option.some.inj h
    exact ev_retV zo_51_101 zr_51
  rw [if_neg c4] at h
  refine ev_if_f (t := 82) zo_51_72 rfl (zcm_neq c4) rfl ?_
  refine ev_aload_n zo_51_75 rfl rfl rfl rfl ?_
  obtain ⟨q9, hq9, h⟩ := zz_bd h
  refine ev_cV (as := []) (lsn := [.ref 5, zzU]) (by omega) zo_51_76 zl_51_95 (by rw [zm_52]; rfl) (by rw [zm_52]; exact rfl) (by rw [zm_52]; decide) (by unfold zzIn; rw [zm_52]; rfl) (by rw [zm_52]; exact Nat.le_of_ble_eq_true rfl) (Nat.le_of_ble_eq_true rfl) (G_X2_advanceWord (by omega) q3.2 q9 hq9) rfl ?_
  show zzEv _ _ _ _ [] _ _
  refine ev_goto (t := 101) zo_51_79 rfl ?_
  obtain rfl := Option.some.inj h
  exact ev_retV zo_51_101 zr_51
def F_X2_advance_0 : Nat → zzJ → Option (zzJ)
  | 0, _ => none
  | n + 1, J => (if (J.2 5 4) < (J.2 5 2) then (Option.bind (F_X2_byteAt (J.2 5 4) J) fun q11 => (Option.bind (F_X2_isBlank q11.1 q11.2) fun q12 => (if q12.1 = (0 : Int32) then F_X2_advance_38 q12.2 else F_X2_advance_0 n (wI q12.2 5 4 ((q12.2.2 5 4) + (1 : Int32)))))) else F_X2_advance_38 J)
set_option maxRecDepth 100000 in
set_option maxHeartbeats 2000000 in
theorem G_X2_advance_0 {d : Nat} (hd : 3 ≤ d) : ∀ (n : Nat) (J : zzJ) (r : zzJ), F_X2_advance_0 n J = some r → zzEv d 51 0 [.ref 5, zzU] [] (zK J) (none, zK r) := by
  intro n
  induction n with
  | zero => intro J r h; simp [F_X2_advance_0] at h
  | succ n ih =>
    intro J r h
    rw [F_X2_advance_0] at h
    refine ev_aload_n zo_51_0 rfl rfl rfl rfl ?_
    refine ev_getI zo_51_1 zf_51_30 (by decide) (Or.inl rfl) rfl rfl ?_
    refine ev_aload_n zo_51_4 rfl rfl rfl rfl ?_
    refine ev_getI zo_51_5 zf_51_19 (by decide) (Or.inl rfl) rfl rfl ?_
    by_cases c10 : (J.2 5 4) < (J.2 5 2)
    · rw [if_pos c10] at h
      refine ev_cmp_f (t := 38) zo_51_8 rfl (zcm_nge c10) rfl ?_
      refine ev_aload_n zo_51_11 rfl rfl rfl rfl ?_
      refine ev_aload_n zo_51_12 rfl rfl rfl rfl ?_
      refine ev_getI zo_51_13 zf_51_30 (by decide) (Or.inl rfl) rfl rfl ?_
      obtain ⟨q11, hq11, h⟩ := zz_bd h
      refine ev_cV (as := [.int (J.2 5 4)]) (lsn := [.ref 5, .int (J.2 5 4)]) (by omega) zo_51_16 zl_51_85 (by rw [zm_57]; rfl) (by rw [zm_57]; exact rfl) (by rw [zm_57]; decide) (by unfold zzIn; rw [zm_57]; rfl) (by rw [zm_57]; exact Nat.le_of_ble_eq_true rfl) (Nat.le_of_ble_eq_true rfl) (G_X2_byteAt (by omega) (J.2 5 4) J q11 hq11) rfl ?_
      show zzEv _ _ _ _ [.int q11.1] _ _
      obtain ⟨q12, hq12, h⟩ := zz_bd h
      refine ev_cS (as := [.int q11.1]) (lsn := [.int q11.1]) (by omega) zo_51_19 zl_51_89 (by decide) (by rw [zm_58]; rfl) (by unfold zzIn; rw [zm_58]; rfl) (by rw [zm_58]; exact Nat.le_of_ble_eq_true rfl) (Nat.le_of_ble_eq_true rfl) (G_X2_isBlank (by omega) q11.1 q11.2 q12 hq12) rfl ?_
      show zzEv _ _ _ _ [.int q12.1] _ _
      by_cases c13 : q12.1 = (0 : Int32)
      · rw [if_pos c13] at h
        refine ev_if_t (t := 38) zo_51_22 rfl (zcm_eq c13) ?_
        exact G_X2_advance_38 hd q12.2 r h
      rw [if_neg c13] at h
      refine ev_if_f (t := 38) zo_51_22 rfl (zcm_neq c13) rfl ?_
      refine ev_aload_n zo_51_25 rfl rfl rfl rfl ?_
      refine ev_dup zo_51_26 rfl rfl ?_
      refine ev_getI zo_51_27 zf_51_30 (by decide) (Or.inl rfl) rfl rfl ?_
      refine ev_iconst (x := 1) zo_51_30 (by decide) rfl ?_
      refine ev_iadd zo_51_31 rfl ?_
      refine ev_putI zo_51_32 zf_51_30 (by decide) rfl rfl rfl rfl ?_
      refine ev_goto (t := 0) zo_51_35 rfl ?_
      exact ih (wI q12.2 5 4 ((q12.2.2 5 4) + (1 : Int32))) r h
    rw [if_neg c10] at h
    refine ev_cmp_t (t := 38) zo_51_8 rfl (zcm_ge c10) ?_
    exact G_X2_advance_38 hd J r h
def F_X2_advance (J : zzJ) : Option (zzJ) := F_X2_advance_0 4096 J
set_option maxRecDepth 100000 in
set_option maxHeartbeats 2000000 in
theorem G_X2_advance {d : Nat} (hd : 3 ≤ d) (J : zzJ) (r : zzJ) (h : F_X2_advance J = some r) : zzEv d 51 0 [.ref 5, zzU] [] (zK J) (none, zK r) := by
  unfold F_X2_advance at h
  exact G_X2_advance_0 hd 4096 J r h
/-! X2_opens -/
def F_X2_opens (x1 : Int32) (J : zzJ) : Option (Int32 × zzJ) := (if x1 < (5 : Int32) then (Option.bind (F_X2_advance J) fun q2 => some ((1 : Int32), q2)) else (Option.bind (F_X2_fail J) fun q3 => some ((0 : Int32), q3)))
set_option maxRecDepth 100000 in
set_option maxHeartbeats 2000000 in
theorem G_X2_opens {d : Nat} (hd : 4 ≤ d) (x1 : Int32) (J : zzJ) (r : Int32 × zzJ) (h : F_X2_opens x1 J = some r) : zzEv d 48 0 [.ref 5, .int x1] [] (zK J) (some (.int r.1), zK r.2) := by
  unfold F_X2_opens at h
  refine ev_iload_n zo_48_0 rfl rfl rfl ?_
  refine ev_iconst (x := 5) zo_48_1 (by decide) rfl ?_
  by_cases c1 : x1 < (5 : Int32)
  · rw [if_pos c1] at h
    refine ev_cmp_t (t := 11) zo_48_2 rfl (zcm_lt c1) ?_
    refine ev_aload_n zo_48_11 rfl rfl rfl rfl ?_
    obtain ⟨q2, hq2, h⟩ := zz_bd h
    refine ev_cV (as := []) (lsn := [.ref 5, zzU]) (by omega) zo_48_12 zl_48_38 (by rw [zm_51]; rfl) (by rw [zm_51]; exact rfl) (by rw [zm_51]; decide) (by unfold zzIn; rw [zm_51]; rfl) (by rw [zm_51]; exact Nat.le_of_ble_eq_true rfl) (Nat.le_of_ble_eq_true rfl) (G_X2_advance (by omega) J q2 hq2) rfl ?_
    show zzEv _ _ _ _ [] _ _
    refine ev_iconst (x := 1) zo_48_15 (by decide) rfl ?_
    obtain rfl := Option.some.inj h
    exact ev_retZ zo_48_16 zr_48 (Or.inr rfl)
  rw [if_neg c1] at h
  refine ev_cmp_f (t := 11) zo_48_2 rfl (zcm_nlt c1) rfl ?_
  refine ev_aload_n zo_48_5 rfl rfl rfl rfl ?_
  obtain ⟨q3, hq3, h⟩ := zz_bd h
  refine ev_cV (as := []) (lsn := [.ref 5]) (by omega) zo_48_6 zl_48_54 (by rw [zm_50]; rfl) (by rw [zm_50]; exact rfl) (by rw [zm_50]; decide) (by unfold zzIn; rw [zm_50]; rfl) (by rw [zm_50]; exact Nat.le_of_ble_eq_true rfl) (Nat.le_of_ble_eq_true rfl) (G_X2_fail (by omega) J q3 hq3) rfl ?_
  show zzEv _ _ _ _ [] _ _
  refine ev_iconst (x := 0) zo_48_9 (by decide) rfl ?_
  obtain rfl := Option.some.inj h
  exact ev_retZ zo_48_10 zr_48 (Or.inl rfl)
/-! X2_expect -/
def F_X2_expect (x1 : Int32) (J : zzJ) : Option (zzJ) := (if (J.2 5 5) = x1 then (Option.bind (F_X2_advance J) fun q3 => some q3) else (Option.bind (F_X2_fail J) fun q2 => some q2))
set_option maxRecDepth 100000 in
set_option maxHeartbeats 2000000 in
theorem G_X2_expect {d : Nat} (hd : 4 ≤ d) (x1 : Int32) (J : zzJ) (r : zzJ) (h : F_X2_expect x1 J = some r) : zzEv d 49 0 [.ref 5, .int x1] [] (zK J) (none, zK r) := by
  unfold F_X2_expect at h
  refine ev_aload_n zo_49_0 rfl rfl rfl rfl ?_
  refine ev_getI zo_49_1 zf_49_51 (by decide) (Or.inl rfl) rfl rfl ?_
  refine ev_iload_n zo_49_4 rfl rfl rfl ?_
  by_cases c1 : (J.2 5 5) = x1
  · rw [if_pos c1] at h
    refine ev_cmp_f (t := 15) zo_49_5 rfl (zcm_nne c1) rfl ?_
    refine ev_aload_n zo_49_8 rfl rfl rfl rfl ?_
    obtain ⟨q3, hq3, h⟩ := zz_bd h
    refine ev_cV (as := []) (lsn := [.ref 5, zzU]) (by omega) zo_49_9 zl_49_38 (by rw [zm_51]; rfl) (by rw [zm_51]; exact rfl) (by rw [zm_51]; decide) (by unfold zzIn; rw [zm_51]; rfl) (by rw [zm_51]; exact Nat.le_of_ble_eq_true rfl) (Nat.le_of_ble_eq_true rfl) (G_X2_advance (by omega) J q3 hq3) rfl ?_
    show zzEv _ _ _ _ [] _ _
    refine ev_goto (t := 19) zo_49_12 rfl ?_
    obtain rfl := Option.some.inj h
    exact ev_retV zo_49_19 zr_49
  rw [if_neg c1] at h
  refine ev_cmp_t (t := 15) zo_49_5 rfl (zcm_ne c1) ?_
  refine ev_aload_n zo_49_15 rfl rfl rfl rfl ?_
  obtain ⟨q2, hq2, h⟩ := zz_bd h
  refine ev_cV (as := []) (lsn := [.ref 5]) (by omega) zo_49_16 zl_49_54 (by rw [zm_50]; rfl) (by rw [zm_50]; exact rfl) (by rw [zm_50]; decide) (by unfold zzIn; rw [zm_50]; rfl) (by rw [zm_50]; exact Nat.le_of_ble_eq_true rfl) (Nat.le_of_ble_eq_true rfl) (G_X2_fail (by omega) J q2 hq2) rfl ?_
  show zzEv _ _ _ _ [] _ _
  obtain rfl := Option.some.inj h
  exact ev_retV zo_49_19 zr_49
/-! X5_add -/
def F_X5_add (x1 : Int32) (J : zzJ) : Option (zzJ) := (Option.bind (F_X6_put 2 (J.2 1 4) x1 J) fun q1 => some (wI q1 1 4 ((q1.2 1 4) + (1 : Int32))))
set_option maxRecDepth 100000 in
set_option maxHeartbeats 2000000 in
theorem G_X5_add {d : Nat} (hd : 1 ≤ d) (x1 : Int32) (J : zzJ) (r : zzJ) (h : F_X5_add x1 J = some r) : zzEv d 76 0 [.ref 1, .int x1] [] (zK J) (none, zK r) := by
  unfold F_X5_add at h
  refine ev_aload_n zo_76_0 rfl rfl rfl rfl ?_
  refine ev_getR zo_76_1 zf_76_9 (by decide) rfl rfl rfl rfl ?_
  refine ev_aload_n zo_76_4 rfl rfl rfl rfl ?_
  refine ev_getI zo_76_5 zf_76_25 (by decide) (Or.inl rfl) rfl rfl ?_
  refine ev_iload_n zo_76_8 rfl rfl rfl ?_
  obtain ⟨q1, hq1, h⟩ := zz_bd h
  refine ev_cS (as := [.int x1, .int (J.2 1 4), .ref 2]) (lsn := [.ref 2, .int (J.2 1 4), .int x1]) (by omega) zo_76_9 zl_76_28 (by decide) (by rw [zm_126]; rfl) (by unfold zzIn; rw [zm_126]; rfl) (by rw [zm_126]; exact Nat.le_of_ble_eq_true rfl) (Nat.le_of_ble_eq_true rfl) (G_X6_put (by omega) 2 (J.2 1 4) x1 J q1 hq1) rfl ?_
  show zzEv _ _ _ _ [] _ _
  refine ev_aload_n zo_76_12 rfl rfl rfl rfl ?_
  refine ev_dup zo_76_13 rfl rfl ?_
  refine ev_getI zo_76_14 zf_76_25 (by decide) (Or.inl rfl) rfl rfl ?_
  refine ev_iconst (x := 1) zo_76_17 (by decide) rfl ?_
  refine ev_iadd zo_76_18 rfl ?_
  refine ev_putI zo_76_19 zf_76_25 (by decide) rfl rfl rfl rfl ?_
  obtain rfl := Option.some.inj h
  exact ev_retV zo_76_22 zr_76
/-! X2_readOne -/
def F_X2_readOne_35 (k_X2_readOr : Int32 → zzJ → Option (zzJ)) (k_X2_readNot : Int32 → zzJ → Option (zzJ)) (k_X2_readOne : Int32 → zzJ → Option (zzJ)) (l1 : Int32) (J : zzJ) : Option (zzJ) := (if (J.2 5 5) = (11045 : Int32) then (Option.bind (F_X2_opens l1 J) fun q8 => (if q8.1 = (0 : Int32) then some q8.2 else (Option.bind (k_X2_readOne (l1 + (1 : Int32)) q8.2) fun q10 => (Option.bind (F_X5_add (10012 : Int32) q10) fun q11 => some q11)))) else (if (J.2 5 5) = (11040 : Int32) then (Option.bind (F_X2_opens l1 J) fun q4 => (if q4.1 = (0 : Int32) then some q4.2 else (Option.bind (k_X2_readOr (l1 + (1 : Int32)) q4.2) fun q6 => (Option.bind (F_X2_expect (11041 : Int32) q6) fun q7 => some q7)))) else (Option.bind (F_X2_fail J) fun q3 => some q3)))
set_option maxRecDepth 100000 in
set_option maxHeartbeats 2000000 in
theorem G_X2_readOne_35 {D d : Nat} (k_X2_readOr : Int32 → zzJ → Option (zzJ)) (k_X2_readNot : Int32 → zzJ → Option (zzJ)) (k_X2_readOne : Int32 → zzJ → Option (zzJ)) (hk_X2_readOr : ∀ dd, D ≤ dd → ∀ (x1 : Int32) (J : zzJ) (q : zzJ), k_X2_readOr x1 J = some q → zzEv dd 42 0 [.ref 5, .int x1, zzU] [] (zK J) (none, zK q)) (hk_X2_readNot : ∀ dd, D ≤ dd → ∀ (x1 : Int32) (J : zzJ) (q : zzJ), k_X2_readNot x1 J = some q → zzEv dd 44 0 [.ref 5, .int x1, zzU] [] (zK J) (none, zK q)) (hk_X2_readOne : ∀ dd, D ≤ dd → ∀ (x1 : Int32) (J : zzJ) (q : zzJ), k_X2_readOne x1 J = some q → zzEv dd 47 0 [.ref 5, .int x1] [] (zK J) (none, zK q)) (hd : D + 5 ≤ d) : ∀ (l1 : Int32) (J : zzJ) (r : zzJ), F_X2_readOne_35 k_X2_readOr k_X2_readNot k_X2_readOne l1 J = some r → zzEv d 47 35 [.ref 5, .int l1] [] (zK J) (none, zK r) := by
  intro l1 J r h
  unfold F_X2_readOne_35 at h
  refine ev_aload_n zo_47_35 rfl rfl rfl rfl ?_
  refine ev_getI zo_47_36 zf_47_51 (by decide) (Or.inl rfl) rfl rfl ?_
  refine ev_sipush (x := 11045) zo_47_39 (by decide) rfl ?_
  by_cases c1 : (J.2 5 5) = (11045 : Int32)
  · rw [if_pos c1] at h
    refine ev_cmp_f (t := 73) zo_47_42 rfl (zcm_nne c1) rfl ?_
    refine ev_aload_n zo_47_45 rfl rfl rfl rfl ?_
    refine ev_iload_n zo_47_46 rfl rfl rfl ?_
    obtain ⟨q8, hq8, h⟩ := zz_bd h
    refine ev_cV (as := [.int l1]) (lsn := [.ref 5, .int l1]) (by omega) zo_47_47 zl_47_69 (by rw [zm_48]; rfl) (by rw [zm_48]; exact rfl) (by rw [zm_48]; decide) (by unfold zzIn; rw [zm_48]; rfl) (by rw [zm_48]; exact Nat.le_of_ble_eq_true rfl) (Nat.le_of_ble_eq_true rfl) (G_X2_opens (by omega) l1 J q8 hq8) rfl ?_
    show zzEv _ _ _ _ [.int q8.1] _ _
    by_cases c9 : q8.1 = (0 : Int32)
    · rw [if_pos c9] at h
      refine ev_if_t (t := 112) zo_47_50 rfl (zcm_eq c9) ?_
      obtain rfl := Option.some.inj h
      exact ev_retV zo_47_112 zr_47
    rw [if_neg c9] at h
    refine ev_if_f (t := 112) zo_47_50 rfl (zcm_neq c9) rfl ?_
    refine ev_aload_n zo_47_53 rfl rfl rfl rfl ?_
    refine ev_iload_n zo_47_54 rfl rfl rfl ?_
    refine ev_iconst (x := 1) zo_47_55 (by decide) rfl ?_
    refine ev_iadd zo_47_56 rfl ?_
    obtain ⟨q10, hq10, h⟩ := zz_bd h
    refine ev_cV (as := [.int (l1 + (1 : Int32))]) (lsn := [.ref 5, .int (l1 + (1 : Int32))]) (by omega) zo_47_57 zl_47_79 (by rw [zm_47]; rfl) (by rw [zm_47]; exact rfl) (by rw [zm_47]; decide) (by unfold zzIn; rw [zm_47]; rfl) (by rw [zm_47]; exact Nat.le_of_ble_eq_true rfl) (Nat.le_of_ble_eq_true rfl) (hk_X2_readOne _ (by omega) (l1 + (1 : Int32)) q8.2 q10 hq10) rfl ?_
    show zzEv _ _ _ _ [] _ _
    refine ev_aload_n zo_47_60 rfl rfl rfl rfl ?_
    refine ev_getR zo_47_61 zf_47_9 (by decide) rfl rfl rfl rfl ?_
    refine ev_sipush (x := 10012) zo_47_64 (by decide) rfl ?_
    obtain ⟨q11, hq11, h⟩ := zz_bd h
    refine ev_cV (as := [.int (10012 : Int32)]) (lsn := [.ref 1, .int (10012 : Int32)]) (by omega) zo_47_67 zl_47_63 (by rw [zm_76]; rfl) (by rw [zm_76]; exact rfl) (by rw [zm_76]; decide) (by unfold zzIn; rw [zm_76]; rfl) (by rw [zm_76]; exact Nat.le_of_ble_eq_true rfl) (Nat.le_of_ble_eq_true rfl) (G_X5_add (by omega) (10012 : Int32) q10 q11 hq11) rfl ?_
    show zzEv _ _ _ _ [] _ _
    refine ev_goto (t := 112) zo_47_70 rfl ?_
    obtain rfl := Option.some.inj h
    exact ev_retV zo_47_112 zr_47
  rw [if_neg c1] at h
  refine ev_cmp_t (t := 73) zo_47_42 rfl (zcm_ne c1) ?_
  refine ev_aload_n zo_47_73 rfl rfl rfl rfl ?_
  refine ev_getI zo_47_74 zf_47_51 (by decide) (Or.inl rfl) rfl rfl ?_
  refine ev_sipush (x := 11040) zo_47_77 (by decide) rfl ?_
  by_cases c2 : (J.2 5 5) = (11040 : Int32)
  · rw [if_pos c2] at h
    refine ev_cmp_f (t := 108) zo_47_80 rfl (zcm_nne c2) rfl ?_
    refine ev_aload_n zo_47_83 rfl rfl rfl rfl ?_
    refine ev_iload_n zo_47_84 rfl rfl rfl ?_
    obtain ⟨q4, hq4, h⟩ := zz_bd h
    refine ev_cV (as := [.int l1]) (lsn := [.ref 5, .int l1]) (by omega) zo_47_85 zl_47_69 (by rw [zm_48]; rfl) (by rw [zm_48]; exact rfl) (by rw [zm_48]; decide) (by unfold zzIn; rw [zm_48]; rfl) (by rw [zm_48]; exact Nat.le_of_ble_eq_true rfl) (Nat.le_of_ble_eq_true rfl) (G_X2_opens (by omega) l1 J q4 hq4) rfl ?_
    show zzEv _ _ _ _ [.int q4.1] _ _
    by_cases c5 : q4.1 = (0 : Int32)
    · rw [if_pos c5] at h
      refine ev_if_t (t := 112) zo_47_88 rfl (zcm_eq c5) ?_
      obtain rfl := Option.some.inj h
      exact ev_retV zo_47_112 zr_47
    rw [if_neg c5] at h
    refine ev_if_f (t := 112) zo_47_88 rfl (zcm_neq c5) rfl ?_
    refine ev_aload_n zo_47_91 rfl rfl rfl rfl ?_
    refine ev_iload_n zo_47_92 rfl rfl rfl ?_
    refine ev_iconst (x := 1) zo_47_93 (by decide) rfl ?_
    refine ev_iadd zo_47_94 rfl ?_
    obtain ⟨q6, hq6, h⟩ := zz_bd h
    refine ev_cV (as := [.int (l1 + (1 : Int32))]) (lsn := [.ref 5, .int (l1 + (1 : Int32)), zzU]) (by omega) zo_47_95 zl_47_45 (by rw [zm_42]; rfl) (by rw [zm_42]; exact rfl) (by rw [zm_42]; decide) (by unfold zzIn; rw [zm_42]; rfl) (by rw [zm_42]; exact Nat.le_of_ble_eq_true rfl) (Nat.le_of_ble_eq_true rfl) (hk_X2_readOr _ (by omega) (l1 + (1 : Int32)) q4.2 q6 hq6) rfl ?_
    show zzEv _ _ _ _ [] _ _
    refine ev_aload_n zo_47_98 rfl rfl rfl rfl ?_
    refine ev_sipush (x := 11041) zo_47_99 (by decide) rfl ?_
    obtain ⟨q7, hq7, h⟩ := zz_bd h
    refine ev_cV (as := [.int (11041 : Int32)]) (lsn := [.ref 5, .int (11041 : Int32)]) (by omega) zo_47_102 zl_47_41 (by rw [zm_49]; rfl) (by rw [zm_49]; exact rfl) (by rw [zm_49]; decide) (by unfold zzIn; rw [zm_49]; rfl) (by rw [zm_49]; exact Nat.le_of_ble_eq_true rfl) (Nat.le_of_ble_eq_true rfl) (G_X2_expect (by omega) (11041 : Int32) q6 q7 hq7) rfl ?_
    show zzEv _ _ _ _ [] _ _
    refine ev_goto (t := 112) zo_47_105 rfl ?_
    obtain rfl := Option.some.inj h
    exact ev_retV zo_47_112 zr_47
  rw [if_neg c2] at h
  refine ev_cmp_t (t := 108) zo_47_80 rfl (zcm_ne c2) ?_
  refine ev_aload_n zo_47_108 rfl rfl rfl rfl ?_
  obtain ⟨q3, hq3, h⟩ := zz_bd h
  refine ev_cV (as := []) (lsn := [.ref 5]) (by omega) zo_47_109 zl_47_54 (by rw [zm_50]; rfl) (by rw [zm_50]; exact rfl) (by rw [zm_50]; decide) (by unfold zzIn; rw [zm_50]; rfl) (by rw [zm_50]; exact Nat.le_of_ble_eq_true rfl) (Nat.le_of_ble_eq_true rfl) (G_X2_fail (by omega) J q3 hq3) rfl ?_
  show zzEv _ _ _ _ [] _ _
  obtain rfl := Option.some.inj h
  exact ev_retV zo_47_112 zr_47
def F_X2_readOne (k_X2_readOr : Int32 → zzJ → Option (zzJ)) (k_X2_readNot : Int32 → zzJ → Option (zzJ)) (k_X2_readOne : Int32 → zzJ → Option (zzJ)) (x1 : Int32) (J : zzJ) : Option (zzJ) := (if (J.2 5 5) < (0 : Int32) then F_X2_readOne_35 k_X2_readOr k_X2_readNot k_X2_readOne x1 J else (if (10005 : Int32) < (J.2 5 5) then F_X2_readOne_35 k_X2_readOr k_X2_readNot k_X2_readOne x1 J else (Option.bind (F_X5_add (J.2 5 5) J) fun q14 => (Option.bind (F_X2_advance q14) fun q15 => some q15))))
set_option maxRecDepth 100000 in
set_option maxHeartbeats 2000000 in
theorem G_X2_readOne {D d : Nat} (k_X2_readOr : Int32 → zzJ → Option (zzJ)) (k_X2_readNot : Int32 → zzJ → Option (zzJ)) (k_X2_readOne : Int32 → zzJ → Option (zzJ)) (hk_X2_readOr : ∀ dd, D ≤ dd → ∀ (x1 : Int32) (J : zzJ) (q : zzJ), k_X2_readOr x1 J = some q → zzEv dd 42 0 [.ref 5, .int x1, zzU] [] (zK J) (none, zK q)) (hk_X2_readNot : ∀ dd, D ≤ dd → ∀ (x1 : Int32) (J : zzJ) (q : zzJ), k_X2_readNot x1 J = some q → zzEv dd 44 0 [.ref 5, .int x1, zzU] [] (zK J) (none, zK q)) (hk_X2_readOne : ∀ dd, D ≤ dd → ∀ (x1 : Int32) (J : zzJ) (q : zzJ), k_X2_readOne x1 J = some q → zzEv dd 47 0 [.ref 5, .int x1] [] (zK J) (none, zK q)) (hd : D + 5 ≤ d) (x1 : Int32) (J : zzJ) (r : zzJ) (h : F_X2_readOne k_X2_readOr k_X2_readNot k_X2_readOne x1 J = some r) : zzEv d 47 0 [.ref 5, .int x1] [] (zK J) (none, zK r) := by
  unfold F_X2_readOne at h
  refine ev_aload_n zo_47_0 rfl rfl rfl rfl ?_
  refine ev_getI zo_47_1 zf_47_51 (by decide) (Or.inl rfl) rfl rfl ?_
  by_cases c12 : (J.2 5 5) < (0 : Int32)
  · rw [if_pos c12] at h
    refine ev_if_t (t := 35) zo_47_4 rfl (zcm_lt c12) ?_
    exact G_X2_readOne_35 k_X2_readOr k_X2_readNot k_X2_readOne hk_X2_readOr hk_X2_readNot hk_X2_readOne hd x1 J r h
  rw [if_neg c12] at h
  refine ev_if_f (t := 35) zo_47_4 rfl (zcm_nlt c12) rfl ?_
  refine ev_aload_n zo_47_7 rfl rfl rfl rfl ?_
  refine ev_getI zo_47_8 zf_47_51 (by decide) (Or.inl rfl) rfl rfl ?_
  refine ev_sipush (x := 10005) zo_47_11 (by decide) rfl ?_
  by_cases c13 : (10005 : Int32) < (J.2 5 5)
  · rw [if_pos c13] at h
    refine ev_cmp_t (t := 35) zo_47_14 rfl (zcm_gt c13) ?_
    exact G_X2_readOne_35 k_X2_readOr k_X2_readNot k_X2_readOne hk_X2_readOr hk_X2_readNot hk_X2_readOne hd x1 J r h
  rw [if_neg c13] at h
  refine ev_cmp_f (t := 35) zo_47_14 rfl (zcm_ngt c13) rfl ?_
  refine ev_aload_n zo_47_17 rfl rfl rfl rfl ?_
  refine ev_getR zo_47_18 zf_47_9 (by decide) rfl rfl rfl rfl ?_
  refine ev_aload_n zo_47_21 rfl rfl rfl rfl ?_
  refine ev_getI zo_47_22 zf_47_51 (by decide) (Or.inl rfl) rfl rfl ?_
  obtain ⟨q14, hq14, h⟩ := zz_bd h
  refine ev_cV (as := [.int (J.2 5 5)]) (lsn := [.ref 1, .int (J.2 5 5)]) (by omega) zo_47_25 zl_47_63 (by rw [zm_76]; rfl) (by rw [zm_76]; exact rfl) (by rw [zm_76]; decide) (by unfold zzIn; rw [zm_76]; rfl) (by rw [zm_76]; exact Nat.le_of_ble_eq_true rfl) (Nat.le_of_ble_eq_true rfl) (G_X5_add (by omega) (J.2 5 5) J q14 hq14) rfl ?_
  show zzEv _ _ _ _ [] _ _
  refine ev_aload_n zo_47_28 rfl rfl rfl rfl ?_
  obtain ⟨q15, hq15, h⟩ := zz_bd h
  refine ev_cV (as := []) (lsn := [.ref 5, zzU]) (by omega) zo_47_29 zl_47_38 (by rw [zm_51]; rfl) (by rw [zm_51]; exact rfl) (by rw [zm_51]; decide) (by unfold zzIn; rw [zm_51]; rfl) (by rw [zm_51]; exact Nat.le_of_ble_eq_true rfl) (Nat.le_of_ble_eq_true rfl) (G_X2_advance (by omega) q14 q15 hq15) rfl ?_
  show zzEv _ _ _ _ [] _ _
  refine ev_goto (t := 112) zo_47_32 rfl ?_
  obtain rfl := Option.some.inj h
  exact ev_retV zo_47_112 zr_47
/-! X2_readTerm -/
def F_X2_readTerm_7 (k_X2_readOr : Int32 → zzJ → Option (zzJ)) (k_X2_readNot : Int32 → zzJ → Option (zzJ)) (k_X2_readOne : Int32 → zzJ → Option (zzJ)) : Nat → Int32 → Int32 → zzJ → Option (zzJ)
  | 0, _, _, _ => none
  | n + 1, l1, l2, J => (if l2 < (160 : Int32) then (if (J.2 5 5) = (11042 : Int32) then (Option.bind (F_X2_advance J) fun q3 => (Option.bind (F_X2_readOne k_X2_readOr k_X2_readNot k_X2_readOne l1 q3) fun q4 => (Option.bind (F_X5_add (11042 : Int32) q4) fun q5 => F_X2_readTerm_7 k_X2_readOr k_X2_readNot k_X2_readOne n l1 (l2 + 1) q5))) else some J) else some J)
set_option maxRecDepth 100000 in
set_option maxHeartbeats 2000000 in
theorem G_X2_readTerm_7 {D d : Nat} (k_X2_readOr : Int32 → zzJ → Option (zzJ)) (k_X2_readNot : Int32 → zzJ → Option (zzJ)) (k_X2_readOne : Int32 → zzJ → Option (zzJ)) (hk_X2_readOr : ∀ dd, D ≤ dd → ∀ (x1 : Int32) (J : zzJ) (q : zzJ), k_X2_readOr x1 J = some q → zzEv dd 42 0 [.ref 5, .int x1, zzU] [] (zK J) (none, zK q)) (hk_X2_readNot : ∀ dd, D ≤ dd → ∀ (x1 : Int32) (J : zzJ) (q : zzJ), k_X2_readNot x1 J = some q → zzEv dd 44 0 [.ref 5, .int x1, zzU] [] (zK J) (none, zK q)) (hk_X2_readOne : ∀ dd, D ≤ dd → ∀ (x1 : Int32) (J : zzJ) (q : zzJ), k_X2_readOne x1 J = some q → zzEv dd 47 0 [.ref 5, .int x1] [] (zK J) (none, zK q)) (hd : D + 6 ≤ d) : ∀ (n : Nat) (l1 : Int32) (l2 : Int32) (J : zzJ) (r : zzJ), F_X2_readTerm_7 k_X2_readOr k_X2_readNot k_X2_readOne n l1 l2 J = some r → zzEv d 46 7 [.ref 5, .int l1, .int l2] [] (zK J) (none, zK r) := by
  intro n
  induction n with
  | zero => intro l1 l2 J r h; simp [F_X2_readTerm_7] at h
  | succ n ih =>
    intro l1 l2 J r h
    rw [F_X2_readTerm_7] at h
    refine ev_iload_n zo_46_7 rfl rfl rfl ?_
    refine ev_sipush (x := 160) zo_46_8 (by decide) rfl ?_
    by_cases c1 : l2 < (160 : Int32)
    · rw [if_pos c1] at h
      refine ev_cmp_f (t := 49) zo_46_11 rfl (zcm_nge c1) rfl ?_
      refine ev_aload_n zo_46_14 rfl rfl rfl rfl ?_
      refine ev_getI zo_46_15 zf_46_51 (by decide) (Or.inl rfl) rfl rfl ?_
      refine ev_sipush (x := 11042) zo_46_18 (by decide) rfl ?_
      by_cases c2 : (J.2 5 5) = (11042 : Int32)
      · rw [if_pos c2] at h
        refine ev_cmp_f (t := 49) zo_46_21 rfl (zcm_nne c2) rfl ?_
        refine ev_aload_n zo_46_24 rfl rfl rfl rfl ?_
        obtain ⟨q3, hq3, h⟩ := zz_bd h
        refine ev_cV (as := []) (lsn := [.ref 5, zzU]) (by omega) zo_46_25 zl_46_38 (by rw [zm_51]; rfl) (by rw [zm_51]; exact rfl) (by rw [zm_51]; decide) (by unfold zzIn; rw [zm_51]; rfl) (by rw [zm_51]; exact Nat.le_of_ble_eq_true rfl) (Nat.le_of_ble_eq_true rfl) (G_X2_advance (by omega) J q3 hq3) rfl ?_
        show zzEv _ _ _ _ [] _ _
        refine ev_aload_n zo_46_28 rfl rfl rfl rfl ?_
        refine ev_iload_n zo_46_29 rfl rfl rfl ?_
        obtain ⟨q4, hq4, h⟩ := zz_bd h
        refine ev_cV (as := [.int l1]) (lsn := [.ref 5, .int l1]) (by omega) zo_46_30 zl_46_79 (by rw [zm_47]; rfl) (by rw [zm_47]; exact rfl) (by rw [zm_47]; decide) (by unfold zzIn; rw [zm_47]; rfl) (by rw [zm_47]; exact Nat.le_of_ble_eq_true rfl) (Nat.le_of_ble_eq_true rfl) (G_X2_readOne k_X2_readOr k_X2_readNot k_X2_readOne hk_X2_readOr hk_X2_readNot hk_X2_readOne (by omega) l1 q3 q4 hq4) rfl ?_
        show zzEv _ _ _ _ [] _ _
        refine ev_aload_n zo_46_33 rfl rfl rfl rfl ?_
        refine ev_getR zo_46_34 zf_46_9 (by decide) rfl rfl rfl rfl ?_
        refine ev_sipush (x := 11042) zo_46_37 (by decide) rfl ?_
        obtain ⟨q5, hq5, h⟩ := zz_bd h
        refine ev_cV (as := [.int (11042 : Int32)]) (lsn := [.ref 1, .int (11042 : Int32)]) (by omega) zo_46_40 zl_46_63 (by rw [zm_76]; rfl) (by rw [zm_76]; exact rfl) (by rw [zm_76]; decide) (by unfold zzIn; rw [zm_76]; rfl) (by rw [zm_76]; exact Nat.le_of_ble_eq_true rfl) (Nat.le_of_ble_eq_true rfl) (G_X5_add (by omega) (11042 : Int32) q4 q5 hq5) rfl ?_
        show zzEv _ _ _ _ [] _ _
        refine ev_iinc (v := 1) zo_46_43 rfl (by decide) (zz_set rfl (by decide) (Nat.le_of_ble_eq_true rfl)) rfl ?_
        show zzEv _ _ _ [.ref 5, .int l1, .int (l2 + 1)] _ _ _
        refine ev_goto (t := 7) zo_46_46 rfl ?_
        exact ih l1 (l2 + 1) q5 r h
      rw [if_neg c2] at h
      refine ev_cmp_t (t := 49) zo_46_21 rfl (zcm_ne c2) ?_
      obtain rfl := Option.some.inj h
      exact ev_retV zo_46_49 zr_46
    rw [if_neg c1] at h
    refine ev_cmp_t (t := 49) zo_46_11 rfl (zcm_ge c1) ?_
    obtain rfl := Option.some.inj h
    exact ev_retV zo_46_49 zr_46
def F_X2_readTerm (k_X2_readOr : Int32 → zzJ → Option (zzJ)) (k_X2_readNot : Int32 → zzJ → Option (zzJ)) (k_X2_readOne : Int32 → zzJ → Option (zzJ)) (x1 : Int32) (J : zzJ) : Option (zzJ) := (Option.bind (F_X2_readOne k_X2_readOr k_X2_readNot k_X2_readOne x1 J) fun q6 => F_X2_readTerm_7 k_X2_readOr k_X2_readNot k_X2_readOne 4096 x1 (0 : Int32) q6)
set_option maxRecDepth 100000 in
set_option maxHeartbeats 2000000 in
theorem G_X2_readTerm {D d : Nat} (k_X2_readOr : Int32 → zzJ → Option (zzJ)) (k_X2_readNot : Int32 → zzJ → Option (zzJ)) (k_X2_readOne : Int32 → zzJ → Option (zzJ)) (hk_X2_readOr : ∀ dd, D ≤ dd → ∀ (x1 : Int32) (J : zzJ) (q : zzJ), k_X2_readOr x1 J = some q → zzEv dd 42 0 [.ref 5, .int x1, zzU] [] (zK J) (none, zK q)) (hk_X2_readNot : ∀ dd, D ≤ dd → ∀ (x1 : Int32) (J : zzJ) (q : zzJ), k_X2_readNot x1 J = some q → zzEv dd 44 0 [.ref 5, .int x1, zzU] [] (zK J) (none, zK q)) (hk_X2_readOne : ∀ dd, D ≤ dd → ∀ (x1 : Int32) (J : zzJ) (q : zzJ), k_X2_readOne x1 J = some q → zzEv dd 47 0 [.ref 5, .int x1] [] (zK J) (none, zK q)) (hd : D + 6 ≤ d) (x1 : Int32) (J : zzJ) (r : zzJ) (h : F_X2_readTerm k_X2_readOr k_X2_readNot k_X2_readOne x1 J = some r) : zzEv d 46 0 [.ref 5, .int x1, zzU] [] (zK J) (none, zK r) := by
  unfold F_X2_readTerm at h
  refine ev_aload_n zo_46_0 rfl rfl rfl rfl ?_
  refine ev_iload_n zo_46_1 rfl rfl rfl ?_
  obtain ⟨q6, hq6, h⟩ := zz_bd h
  refine ev_cV (as := [.int x1]) (lsn := [.ref 5, .int x1]) (by omega) zo_46_2 zl_46_79 (by rw [zm_47]; rfl) (by rw [zm_47]; exact rfl) (by rw [zm_47]; decide) (by unfold zzIn; rw [zm_47]; rfl) (by rw [zm_47]; exact Nat.le_of_ble_eq_true rfl) (Nat.le_of_ble_eq_true rfl) (G_X2_readOne k_X2_readOr k_X2_readNot k_X2_readOne hk_X2_readOr hk_X2_readNot hk_X2_readOne (by omega) x1 J q6 hq6) rfl ?_
  show zzEv _ _ _ _ [] _ _
  refine ev_iconst (x := 0) zo_46_5 (by decide) rfl ?_
  refine ev_istore_n zo_46_6 rfl (zz_set rfl (by decide) (Nat.le_of_ble_eq_true rfl)) rfl ?_
  show zzEv _ _ _ [.ref 5, .int x1, .int (0 : Int32)] _ _ _
  exact G_X2_readTerm_7 k_X2_readOr k_X2_readNot k_X2_readOne hk_X2_readOr hk_X2_readNot hk_X2_readOne hd 4096 x1 (0 : Int32) q6 r h
/-! X2_readSum -/
def F_X2_readSum_34 (k_X2_readOr : Int32 → zzJ → Option (zzJ)) (k_X2_readNot : Int32 → zzJ → Option (zzJ)) (k_X2_readOne : Int32 → zzJ → Option (zzJ)) (kl_7 : Int32 → Int32 → zzJ → Option (zzJ)) (l1 : Int32) (l2 : Int32) (J : zzJ) : Option (zzJ) := (Option.bind (F_X2_advance J) fun q1 => (Option.bind (F_X2_readTerm k_X2_readOr k_X2_readNot k_X2_readOne l1 q1) fun q2 => (Option.bind (F_X5_add (J.2 5 5) q2) fun q3 => kl_7 l1 (l2 + 1) q3)))
set_option maxRecDepth 100000 in
set_option maxHeartbeats 2000000 in
theorem G_X2_readSum_34 {D d : Nat} (k_X2_readOr : Int32 → zzJ → Option (zzJ)) (k_X2_readNot : Int32 → zzJ → Option (zzJ)) (k_X2_readOne : Int32 → zzJ → Option (zzJ)) (hk_X2_readOr : ∀ dd, D ≤ dd → ∀ (x1 : Int32) (J : zzJ) (q : zzJ), k_X2_readOr x1 J = some q → zzEv dd 42 0 [.ref 5, .int x1, zzU] [] (zK J) (none, zK q)) (hk_X2_readNot : ∀ dd, D ≤ dd → ∀ (x1 : Int32) (J : zzJ) (q : zzJ), k_X2_readNot x1 J = some q → zzEv dd 44 0 [.ref 5, .int x1, zzU] [] (zK J) (none, zK q)) (hk_X2_readOne : ∀ dd, D ≤ dd → ∀ (x1 : Int32) (J : zzJ) (q : zzJ), k_X2_readOne x1 J = some q → zzEv dd 47 0 [.ref 5, .int x1] [] (zK J) (none, zK q)) (kl_7 : Int32 → Int32 → zzJ → Option (zzJ)) (hkl_7 : ∀ (l1 : Int32) (l2 : Int32) (J : zzJ) (r : zzJ), kl_7 l1 l2 J = some r → ∀ (lv3 : Value) (hlv3 : lv3.category = 1), zzEv d 45 7 [.ref 5, .int l1, .int l2, lv3] [] (zK J) (none, zK r)) (hd : D + 7 ≤ d) : ∀ (l1 : Int32) (l2 : Int32) (J : zzJ) (r : zzJ), F_X2_readSum_34 k_X2_readOr k_X2_readNot k_X2_readOne kl_7 l1 l2 J = some r → ∀ (lv3 : Value) (hlv3 : lv3.category = 1), zzEv d 45 34 [.ref 5, .int l1, .int l2, lv3] [] (zK J) (none, zK r) := by
  intro l1 l2 J r h lv3 hlv3
  unfold F_X2_readSum_34 at h
  refine ev_aload_n zo_45_34 rfl rfl rfl rfl ?_
  refine ev_getI zo_45_35 zf_45_51 (by decide) (Or.inl rfl) rfl rfl ?_
  refine ev_istore_n zo_45_38 rfl (zz_set rfl (by decide) (Nat.le_of_ble_eq_true rfl)) rfl ?_
  show zzEv _ _ _ [.ref 5, .int l1, .int l2, .int (J.2 5 5)] _ _ _
  refine ev_aload_n zo_45_39 rfl rfl rfl rfl ?_
  obtain ⟨q1, hq1, h⟩ := zz_bd h
  refine ev_cV (as := []) (lsn := [.ref 5, zzU]) (by omega) zo_45_40 zl_45_38 (by rw [zm_51]; rfl) (by rw [zm_51]; exact rfl) (by rw [zm_51]; decide) (by unfold zzIn; rw [zm_51]; rfl) (by rw [zm_51]; exact Nat.le_of_ble_eq_true rfl) (Nat.le_of_ble_eq_true rfl) (G_X2_advance (by omega) J q1 hq1) rfl ?_
  show zzEv _ _ _ _ [] _ _
  refine ev_aload_n zo_45_43 rfl rfl rfl rfl ?_
  refine ev_iload_n zo_45_44 rfl rfl rfl ?_
  obtain ⟨q2, hq2, h⟩ := zz_bd h
  refine ev_cV (as := [.int l1]) (lsn := [.ref 5, .int l1, zzU]) (by omega) zo_45_45 zl_45_76 (by rw [zm_46]; rfl) (by rw [zm_46]; exact rfl) (by rw [zm_46]; decide) (by unfold zzIn; rw [zm_46]; rfl) (by rw [zm_46]; exact Nat.le_of_ble_eq_true rfl) (Nat.le_of_ble_eq_true rfl) (G_X2_readTerm k_X2_readOr k_X2_readNot k_X2_readOne hk_X2_readOr hk_X2_readNot hk_X2_readOne (by omega) l1 q1 q2 hq2) rfl ?_
  show zzEv _ _ _ _ [] _ _
  refine ev_aload_n zo_45_48 rfl rfl rfl rfl ?_
  refine ev_getR zo_45_49 zf_45_9 (by decide) rfl rfl rfl rfl ?_
  refine ev_iload_n zo_45_52 rfl rfl rfl ?_
  obtain ⟨q3, hq3, h⟩ := zz_bd h
  refine ev_cV (as := [.int (J.2 5 5)]) (lsn := [.ref 1, .int (J.2 5 5)]) (by omega) zo_45_53 zl_45_63 (by rw [zm_76]; rfl) (by rw [zm_76]; exact rfl) (by rw [zm_76]; decide) (by unfold zzIn; rw [zm_76]; rfl) (by rw [zm_76]; exact Nat.le_of_ble_eq_true rfl) (Nat.le_of_ble_eq_true rfl) (G_X5_add (by omega) (J.2 5 5) q2 q3 hq3) rfl ?_
  show zzEv _ _ _ _ [] _ _
  refine ev_iinc (v := 1) zo_45_56 rfl (by decide) (zz_set rfl (by decide) (Nat.le_of_ble_eq_true rfl)) rfl ?_
  show zzEv _ _ _ [.ref 5, .int l1, .int (l2 + 1), .int (J.2 5 5)] _ _ _
  refine ev_goto (t := 7) zo_45_59 rfl ?_
  exact hkl_7 l1 (l2 + 1) q3 r h (.int (J.2 5 5)) rfl
def F_X2_readSum_7 (k_X2_readOr : Int32 → zzJ → Option (zzJ)) (k_X2_readNot : Int32 → zzJ → Option (zzJ)) (k_X2_readOne : Int32 → zzJ → Option (zzJ)) : Nat → Int32 → Int32 → zzJ → Option (zzJ)
  | 0, _, _, _ => none
  | n + 1, l1, l2, J => (if l2 < (160 : Int32) then (if (J.2 5 5) = (11043 : Int32) then F_X2_readSum_34 k_X2_readOr k_X2_readNot k_X2_readOne (F_X2_readSum_7 k_X2_readOr k_X2_readNot k_X2_readOne n) l1 l2 J else (if (J.2 5 5) = (11045 : Int32) then F_X2_readSum_34 k_X2_readOr k_X2_readNot k_X2_readOne (F_X2_readSum_7 k_X2_readOr k_X2_readNot k_X2_readOne n) l1 l2 J else some J)) else some J)
set_option maxRecDepth 100000 in
set_option maxHeartbeats 2000000 in
theorem G_X2_readSum_7 {D d : Nat} (k_X2_readOr : Int32 → zzJ → Option (zzJ)) (k_X2_readNot : Int32 → zzJ → Option (zzJ)) (k_X2_readOne : Int32 → zzJ → Option (zzJ)) (hk_X2_readOr : ∀ dd, D ≤ dd → ∀ (x1 : Int32) (J : zzJ) (q : zzJ), k_X2_readOr x1 J = some q → zzEv dd 42 0 [.ref 5, .int x1, zzU] [] (zK J) (none, zK q)) (hk_X2_readNot : ∀ dd, D ≤ dd → ∀ (x1 : Int32) (J : zzJ) (q : zzJ), k_X2_readNot x1 J = some q → zzEv dd 44 0 [.ref 5, .int x1, zzU] [] (zK J) (none, zK q)) (hk_X2_readOne : ∀ dd, D ≤ dd → ∀ (x1 : Int32) (J : zzJ) (q : zzJ), k_X2_readOne x1 J = some q → zzEv dd 47 0 [.ref 5, .int x1] [] (zK J) (none, zK q)) (hd : D + 7 ≤ d) : ∀ (n : Nat) (l1 : Int32) (l2 : Int32) (J : zzJ) (r : zzJ), F_X2_readSum_7 k_X2_readOr k_X2_readNot k_X2_readOne n l1 l2 J = some r → ∀ (lv3 : Value) (hlv3 : lv3.category = 1), zzEv d 45 7 [.ref 5, .int l1, .int l2, lv3] [] (zK J) (none, zK r) := by
  intro n
  induction n with
  | zero => intro l1 l2 J r h; simp [F_X2_readSum_7] at h
  | succ n ih =>
    intro l1 l2 J r h lv3 hlv3
    rw [F_X2_readSum_7] at h
    refine ev_iload_n zo_45_7 rfl rfl rfl ?_
    refine ev_sipush (x := 160) zo_45_8 (by decide) rfl ?_
    by_cases c4 : l2 < (160 : Int32)
    · rw [if_pos c4] at h
      refine ev_cmp_f (t := 62) zo_45_11 rfl (zcm_nge c4) rfl ?_
      refine ev_aload_n zo_45_14 rfl rfl rfl rfl ?_
      refine ev_getI zo_45_15 zf_45_51 (by decide) (Or.inl rfl) rfl rfl ?_
      refine ev_sipush (x := 11043) zo_45_18 (by decide) rfl ?_
      by_cases c5 : (J.2 5 5) = (11043 : Int32)
      · rw [if_pos c5] at h
        refine ev_cmp_t (t := 34) zo_45_21 rfl (zcm_eq c5) ?_
        exact G_X2_readSum_34 k_X2_readOr k_X2_readNot k_X2_readOne hk_X2_readOr hk_X2_readNot hk_X2_readOne (F_X2_readSum_7 k_X2_readOr k_X2_readNot k_X2_readOne n) ih hd l1 l2 J r h (lv3) hlv3
      rw [if_neg c5] at h
      refine ev_cmp_f (t := 34) zo_45_21 rfl (zcm_neq c5) rfl ?_
      refine ev_aload_n zo_45_24 rfl rfl rfl rfl ?_
      refine ev_getI zo_45_25 zf_45_51 (by decide) (Or.inl rfl) rfl rfl ?_
      refine ev_sipush (x := 11045) zo_45_28 (by decide) rfl ?_
      by_cases c6 : (J.2 5 5) = (11045 : Int32)
      · rw [if_pos c6] at h
        refine ev_cmp_f (t := 62) zo_45_31 rfl (zcm_nne c6) rfl ?_
        exact G_X2_readSum_34 k_X2_readOr k_X2_readNot k_X2_readOne hk_X2_readOr hk_X2_readNot hk_X2_readOne (F_X2_readSum_7 k_X2_readOr k_X2_readNot k_X2_readOne n) ih hd l1 l2 J r h (lv3) hlv3
      rw [if_neg c6] at h
      refine ev_cmp_t (t := 62) zo_45_31 rfl (zcm_ne c6) ?_
      obtain rfl := Option.some.inj h
      exact ev_retV zo_45_62 zr_45
    rw [if_neg c4] at h
    refine ev_cmp_t (t := 62) zo_45_11 rfl (zcm_ge c4) ?_
    obtain rfl := Option.some.inj h
    exact ev_retV zo_45_62 zr_45
def F_X2_readSum (k_X2_readOr : Int32 → zzJ → Option (zzJ)) (k_X2_readNot : Int32 → zzJ → Option (zzJ)) (k_X2_readOne : Int32 → zzJ → Option (zzJ)) (x1 : Int32) (J : zzJ) : Option (zzJ) := (Option.bind (F_X2_readTerm k_X2_readOr k_X2_readNot k_X2_readOne x1 J) fun q7 => F_X2_readSum_7 k_X2_readOr k_X2_readNot k_X2_readOne 4096 x1 (0 : Int32) q7)
set_option maxRecDepth 100000 in
set_option maxHeartbeats 2000000 in
theorem G_X2_readSum {D d : Nat} (k_X2_readOr : Int32 → zzJ → Option (zzJ)) (k_X2_readNot : Int32 → zzJ → Option (zzJ)) (k_X2_readOne : Int32 → zzJ → Option (zzJ)) (hk_X2_readOr : ∀ dd, D ≤ dd → ∀ (x1 : Int32) (J : zzJ) (q : zzJ), k_X2_readOr x1 J = some q → zzEv dd 42 0 [.ref 5, .int x1, zzU] [] (zK J) (none, zK q)) (hk_X2_readNot : ∀ dd, D ≤ dd → ∀ (x1 : Int32) (J : zzJ) (q : zzJ), k_X2_readNot x1 J = some q → zzEv dd 44 0 [.ref 5, .int x1, zzU] [] (zK J) (none, zK q)) (hk_X2_readOne : ∀ dd, D ≤ dd → ∀ (x1 : Int32) (J : zzJ) (q : zzJ), k_X2_readOne x1 J = some q → zzEv dd 47 0 [.ref 5, .int x1] [] (zK J) (none, zK q)) (hd : D + 7 ≤ d) (x1 : Int32) (J : zzJ) (r : zzJ) (h : F_X2_readSum k_X2_readOr k_X2_readNot k_X2_readOne x1 J = some r) : zzEv d 45 0 [.ref 5, .int x1, zzU, zzU] [] (zK J) (none, zK r) := by
  unfold F_X2_readSum at h
  refine ev_aload_n zo_45_0 rfl rfl rfl rfl ?_
  refine ev_iload_n zo_45_1 rfl rfl rfl ?_
  obtain ⟨q7, hq7, h⟩ := zz_bd h
  refine ev_cV (as := [.int x1]) (lsn := [.ref 5, .int x1, zzU]) (by omega) zo_45_2 zl_45_76 (by rw [zm_46]; rfl) (by rw [zm_46]; exact rfl) (by rw [zm_46]; decide) (by unfold zzIn; rw [zm_46]; rfl) (by rw [zm_46]; exact Nat.le_of_ble_eq_true rfl) (Nat.le_of_ble_eq_true rfl) (G_X2_readTerm k_X2_readOr k_X2_readNot k_X2_readOne hk_X2_readOr hk_X2_readNot hk_X2_readOne (by omega) x1 J q7 hq7) rfl ?_
  show zzEv _ _ _ _ [] _ _
  refine ev_iconst (x := 0) zo_45_5 (by decide) rfl ?_
  refine ev_istore_n zo_45_6 rfl (zz_set rfl (by decide) (Nat.le_of_ble_eq_true rfl)) rfl ?_
  show zzEv _ _ _ [.ref 5, .int x1, .int (0 : Int32), zzU] _ _ _
  exact G_X2_readSum_7 k_X2_readOr k_X2_readNot k_X2_readOne hk_X2_readOr hk_X2_readNot hk_X2_readOne hd 4096 x1 (0 : Int32) q7 r h (zzU) rfl
/-! X2_readNot -/
def F_X2_readNot_60 (k_X2_readOr : Int32 → zzJ → Option (zzJ)) (k_X2_readNot : Int32 → zzJ → Option (zzJ)) (k_X2_readOne : Int32 → zzJ → Option (zzJ)) (l1 : Int32) (l2 : Int32) (J : zzJ) : Option (zzJ) := (Option.bind (F_X2_advance J) fun q1 => (Option.bind (F_X2_readSum k_X2_readOr k_X2_readNot k_X2_readOne l1 q1) fun q2 => (Option.bind (F_X5_add l2 q2) fun q3 => some q3)))
set_option maxRecDepth 100000 in
set_option maxHeartbeats 2000000 in
theorem G_X2_readNot_60 {D d : Nat} (k_X2_readOr : Int32 → zzJ → Option (zzJ)) (k_X2_readNot : Int32 → zzJ → Option (zzJ)) (k_X2_readOne : Int32 → zzJ → Option (zzJ)) (hk_X2_readOr : ∀ dd, D ≤ dd → ∀ (x1 : Int32) (J : zzJ) (q : zzJ), k_X2_readOr x1 J = some q → zzEv dd 42 0 [.ref 5, .int x1, zzU] [] (zK J) (none, zK q)) (hk_X2_readNot : ∀ dd, D ≤ dd → ∀ (x1 : Int32) (J : zzJ) (q : zzJ), k_X2_readNot x1 J = some q → zzEv dd 44 0 [.ref 5, .int x1, zzU] [] (zK J) (none, zK q)) (hk_X2_readOne : ∀ dd, D ≤ dd → ∀ (x1 : Int32) (J : zzJ) (q : zzJ), k_X2_readOne x1 J = some q → zzEv dd 47 0 [.ref 5, .int x1] [] (zK J) (none, zK q)) (hd : D + 8 ≤ d) : ∀ (l1 : Int32) (l2 : Int32) (J : zzJ) (r : zzJ), F_X2_readNot_60 k_X2_readOr k_X2_readNot k_X2_readOne l1 l2 J = some r → zzEv d 44 60 [.ref 5, .int l1, .int l2] [] (zK J) (none, zK r) := by
  intro l1 l2 J r h
  unfold F_X2_readNot_60 at h
  refine ev_aload_n zo_44_60 rfl rfl rfl rfl ?_
  obtain ⟨q1, hq1, h⟩ := zz_bd h
  refine ev_cV (as := []) (lsn := [.ref 5, zzU]) (by omega) zo_44_61 zl_44_38 (by rw [zm_51]; rfl) (by rw [zm_51]; exact rfl) (by rw [zm_51]; decide) (by unfold zzIn; rw [zm_51]; rfl) (by rw [zm_51]; exact Nat.le_of_ble_eq_true rfl) (Nat.le_of_ble_eq_true rfl) (G_X2_advance (by omega) J q1 hq1) rfl ?_
  show zzEv _ _ _ _ [] _ _
  refine ev_aload_n zo_44_64 rfl rfl rfl rfl ?_
  refine ev_iload_n zo_44_65 rfl rfl rfl ?_
  obtain ⟨q2, hq2, h⟩ := zz_bd h
  refine ev_cV (as := [.int l1]) (lsn := [.ref 5, .int l1, zzU, zzU]) (by omega) zo_44_66 zl_44_73 (by rw [zm_45]; rfl) (by rw [zm_45]; exact rfl) (by rw [zm_45]; decide) (by unfold zzIn; rw [zm_45]; rfl) (by rw [zm_45]; exact Nat.le_of_ble_eq_true rfl) (Nat.le_of_ble_eq_true rfl) (G_X2_readSum k_X2_readOr k_X2_readNot k_X2_readOne hk_X2_readOr hk_X2_readNot hk_X2_readOne (by omega) l1 q1 q2 hq2) rfl ?_
  show zzEv _ _ _ _ [] _ _
  refine ev_aload_n zo_44_69 rfl rfl rfl rfl ?_
  refine ev_getR zo_44_70 zf_44_9 (by decide) rfl rfl rfl rfl ?_
  refine ev_iload_n zo_44_73 rfl rfl rfl ?_
  obtain ⟨q3, hq3, h⟩ := zz_bd h
  refine ev_cV (as := [.int l2]) (lsn := [.ref 1, .int l2]) (by omega) zo_44_74 zl_44_63 (by rw [zm_76]; rfl) (by rw [zm_76]; exact rfl) (by rw [zm_76]; decide) (by unfold zzIn; rw [zm_76]; rfl) (by rw [zm_76]; exact Nat.le_of_ble_eq_true rfl) (Nat.le_of_ble_eq_true rfl) (G_X5_add (by omega) l2 q2 q3 hq3) rfl ?_
  show zzEv _ _ _ _ [] _ _
  obtain rfl := Option.some.inj h
  exact ev_retV zo_44_77 zr_44
def F_X2_readNot (k_X2_readOr : Int32 → zzJ → Option (zzJ)) (k_X2_readNot : Int32 → zzJ → Option (zzJ)) (k_X2_readOne : Int32 → zzJ → Option (zzJ)) (x1 : Int32) (J : zzJ) : Option (zzJ) := (if (J.2 5 5) = (10011 : Int32) then (Option.bind (F_X2_opens x1 J) fun q8 => (if q8.1 = (0 : Int32) then some q8.2 else (Option.bind (k_X2_readNot (x1 + (1 : Int32)) q8.2) fun q10 => (Option.bind (F_X5_add (10011 : Int32) q10) fun q11 => some q11)))) else (Option.bind (F_X2_readSum k_X2_readOr k_X2_readNot k_X2_readOne x1 J) fun q5 => (if (q5.2 5 5) = (11060 : Int32) then F_X2_readNot_60 k_X2_readOr k_X2_readNot k_X2_readOne x1 (q5.2 5 5) q5 else (if (q5.2 5 5) = (11061 : Int32) then F_X2_readNot_60 k_X2_readOr k_X2_readNot k_X2_readOne x1 (q5.2 5 5) q5 else some q5))))
set_option maxRecDepth 100000 in
set_option maxHeartbeats 2000000 in
theorem G_X2_readNot {D d : Nat} (k_X2_readOr : Int32 → zzJ → Option (zzJ)) (k_X2_readNot : Int32 → zzJ → Option (zzJ)) (k_X2_readOne : Int32 → zzJ → Option (zzJ)) (hk_X2_readOr : ∀ dd, D ≤ dd → ∀ (x1 : Int32) (J : zzJ) (q : zzJ), k_X2_readOr x1 J = some q → zzEv dd 42 0 [.ref 5, .int x1, zzU] [] (zK J) (none, zK q)) (hk_X2_readNot : ∀ dd, D ≤ dd → ∀ (x1 : Int32) (J : zzJ) (q : zzJ), k_X2_readNot x1 J = some q → zzEv dd 44 0 [.ref 5, .int x1, zzU] [] (zK J) (none, zK q)) (hk_X2_readOne : ∀ dd, D ≤ dd → ∀ (x1 : Int32) (J : zzJ) (q : zzJ), k_X2_readOne x1 J = some q → zzEv dd 47 0 [.ref 5, .int x1] [] (zK J) (none, zK q)) (hd : D + 8 ≤ d) (x1 : Int32) (J : zzJ) (r : zzJ) (h : F_X2_readNot k_X2_readOr k_X2_readNot k_X2_readOne x1 J = some r) : zzEv d 44 0 [.ref 5, .int x1, zzU] [] (zK J) (none, zK r) := by
  unfold F_X2_readNot at h
  refine ev_aload_n zo_44_0 rfl rfl rfl rfl ?_
  refine ev_getI zo_44_1 zf_44_51 (by decide) (Or.inl rfl) rfl rfl ?_
  refine ev_sipush (x := 10011) zo_44_4 (by decide) rfl ?_
  by_cases c4 : (J.2 5 5) = (10011 : Int32)
  · rw [if_pos c4] at h
    refine ev_cmp_f (t := 36) zo_44_7 rfl (zcm_nne c4) rfl ?_
    refine ev_aload_n zo_44_10 rfl rfl rfl rfl ?_
    refine ev_iload_n zo_44_11 rfl rfl rfl ?_
    obtain ⟨q8, hq8, h⟩ := zz_bd h
    refine ev_cV (as := [.int x1]) (lsn := [.ref 5, .int x1]) (by omega) zo_44_12 zl_44_69 (by rw [zm_48]; rfl) (by rw [zm_48]; exact rfl) (by rw [zm_48]; decide) (by unfold zzIn; rw [zm_48]; rfl) (by rw [zm_48]; exact Nat.le_of_ble_eq_true rfl) (Nat.le_of_ble_eq_true rfl) (G_X2_opens (by omega) x1 J q8 hq8) rfl ?_
    show zzEv _ _ _ _ [.int q8.1] _ _
    by_cases c9 : q8.1 = (0 : Int32)
    · rw [if_pos c9] at h
      refine ev_if_t (t := 35) zo_44_15 rfl (zcm_eq c9) ?_
      obtain rfl := Option.some.inj h
      exact ev_retV zo_44_35 zr_44
    rw [if_neg c9] at h
    refine ev_if_f (t := 35) zo_44_15 rfl (zcm_neq c9) rfl ?_
    refine ev_aload_n zo_44_18 rfl rfl rfl rfl ?_
    refine ev_iload_n zo_44_19 rfl rfl rfl ?_
    refine ev_iconst (x := 1) zo_44_20 (by decide) rfl ?_
    refine ev_iadd zo_44_21 rfl ?_
    obtain ⟨q10, hq10, h⟩ := zz_bd h
    refine ev_cV (as := [.int (x1 + (1 : Int32))]) (lsn := [.ref 5, .int (x1 + (1 : Int32)), zzU]) (by omega) zo_44_22 zl_44_66 (by rw [zm_44]; rfl) (by rw [zm_44]; exact rfl) (by rw [zm_44]; decide) (by unfold zzIn; rw [zm_44]; rfl) (by rw [zm_44]; exact Nat.le_of_ble_eq_true rfl) (Nat.le_of_ble_eq_true rfl) (hk_X2_readNot _ (by omega) (x1 + (1 : Int32)) q8.2 q10 hq10) rfl ?_
    show zzEv _ _ _ _ [] _ _
    refine ev_aload_n zo_44_25 rfl rfl rfl rfl ?_
    refine ev_getR zo_44_26 zf_44_9 (by decide) rfl rfl rfl rfl ?_
    refine ev_sipush (x := 10011) zo_44_29 (by decide) rfl ?_
    obtain ⟨q11, hq11, h⟩ := zz_bd h
    refine ev_cV (as := [.int (10011 : Int32)]) (lsn := [.ref 1, .int (10011 : Int32)]) (by omega) zo_44_32 zl_44_63 (by rw [zm_76]; rfl) (by rw [zm_76]; exact rfl) (by rw [zm_76]; decide) (by unfold zzIn; rw [zm_76]; rfl) (by rw [zm_76]; exact Nat.le_of_ble_eq_true rfl) (Nat.le_of_ble_eq_true rfl) (G_X5_add (by omega) (10011 : Int32) q10 q11 hq11) rfl ?_
    show zzEv _ _ _ _ [] _ _
    obtain rfl := Option.some.inj h
    exact ev_retV zo_44_35 zr_44
  rw [if_neg c4] at h
  refine ev_cmp_t (t := 36) zo_44_7 rfl (zcm_ne c4) ?_
  refine ev_aload_n zo_44_36 rfl rfl rfl rfl ?_
  refine ev_iload_n zo_44_37 rfl rfl rfl ?_
  obtain ⟨q5, hq5, h⟩ := zz_bd h
  refine ev_cV (as := [.int x1]) (lsn := [.ref 5, .int x1, zzU, zzU]) (by omega) zo_44_38 zl_44_73 (by rw [zm_45]; rfl) (by rw [zm_45]; exact rfl) (by rw [zm_45]; decide) (by unfold zzIn; rw [zm_45]; rfl) (by rw [zm_45]; exact Nat.le_of_ble_eq_true rfl) (Nat.le_of_ble_eq_true rfl) (G_X2_readSum k_X2_readOr k_X2_readNot k_X2_readOne hk_X2_readOr hk_X2_readNot hk_X2_readOne (by omega) x1 J q5 hq5) rfl ?_
  show zzEv _ _ _ _ [] _ _
  refine ev_aload_n zo_44_41 rfl rfl rfl rfl ?_
  refine ev_getI zo_44_42 zf_44_51 (by decide) (Or.inl rfl) rfl rfl ?_
  refine ev_istore_n zo_44_45 rfl (zz_set rfl (by decide) (Nat.le_of_ble_eq_true rfl)) rfl ?_
  show zzEv _ _ _ [.ref 5, .int x1, .int (q5.2 5 5)] _ _ _
  refine ev_iload_n zo_44_46 rfl rfl rfl ?_
  refine ev_sipush (x := 11060) zo_44_47 (by decide) rfl ?_
  by_cases c6 : (q5.2 5 5) = (11060 : Int32)
  · rw [if_pos c6] at h
    refine ev_cmp_t (t := 60) zo_44_50 rfl (zcm_eq c6) ?_
    exact G_X2_readNot_60 k_X2_readOr k_X2_readNot k_X2_readOne hk_X2_readOr hk_X2_readNot hk_X2_readOne hd x1 (q5.2 5 5) q5 r h
  rw [if_neg c6] at h
  refine ev_cmp_f (t := 60) zo_44_50 rfl (zcm_neq c6) rfl ?_
  refine ev_iload_n zo_44_53 rfl rfl rfl ?_
  refine ev_sipush (x := 11061) zo_44_54 (by decide) rfl ?_
  by_cases c7 : (q5.2 5 5) = (11061 : Int32)
  · rw [if_pos c7] at h
    refine ev_cmp_f (t := 77) zo_44_57 rfl (zcm_nne c7) rfl ?_
    exact G_X2_readNot_60 k_X2_readOr k_X2_readNot k_X2_readOne hk_X2_readOr hk_X2_readNot hk_X2_readOne hd x1 (q5.2 5 5) q5 r h
  rw [if_neg c7] at h
  refine ev_cmp_t (t := 77) zo_44_57 rfl (zcm_ne c7) ?_
  obtain rfl := Option.some.inj h
  exact ev_retV zo_44_77 zr_44
/-! X2_readAnd -/
def F_X2_readAnd_7 (k_X2_readOr : Int32 → zzJ → Option (zzJ)) (k_X2_readNot : Int32 → zzJ → Option (zzJ)) (k_X2_readOne : Int32 → zzJ → Option (zzJ)) : Nat → Int32 → Int32 → zzJ → Option (zzJ)
  | 0, _, _, _ => none
  | n + 1, l1, l2, J => (if l2 < (160 : Int32) then (if (J.2 5 5) = (10010 : Int32) then (Option.bind (F_X2_advance J) fun q3 => (Option.bind (F_X2_readNot k_X2_readOr k_X2_readNot k_X2_readOne l1 q3) fun q4 => (Option.bind (F_X5_add (10010 : Int32) q4) fun q5 => F_X2_readAnd_7 k_X2_readOr k_X2_readNot k_X2_readOne n l1 (l2 + 1) q5))) else some J) else some J)
set_option maxRecDepth 100000 in
set_option maxHeartbeats 2000000 in
theorem G_X2_readAnd_7 {D d : Nat} (k_X2_readOr : Int32 → zzJ → Option (zzJ)) (k_X2_readNot : Int32 → zzJ → Option (zzJ)) (k_X2_readOne : Int32 → zzJ → Option (zzJ)) (hk_X2_readOr : ∀ dd, D ≤ dd → ∀ (x1 : Int32) (J : zzJ) (q : zzJ), k_X2_readOr x1 J = some q → zzEv dd 42 0 [.ref 5, .int x1, zzU] [] (zK J) (none, zK q)) (hk_X2_readNot : ∀ dd, D ≤ dd → ∀ (x1 : Int32) (J : zzJ) (q : zzJ), k_X2_readNot x1 J = some q → zzEv dd 44 0 [.ref 5, .int x1, zzU] [] (zK J) (none, zK q)) (hk_X2_readOne : ∀ dd, D ≤ dd → ∀ (x1 : Int32) (J : zzJ) (q : zzJ), k_X2_readOne x1 J = some q → zzEv dd 47 0 [.ref 5, .int x1] [] (zK J) (none, zK q)) (hd : D + 9 ≤ d) : ∀ (n : Nat) (l1 : Int32) (l2 : Int32) (J : zzJ) (r : zzJ), F_X2_readAnd_7 k_X2_readOr k_X2_readNot k_X2_readOne n l1 l2 J = some r → zzEv d 43 7 [.ref 5, .int l1, .int l2] [] (zK J) (none, zK r) := by
  intro n
  induction n with
  | zero => intro l1 l2 J r h; simp [F_X2_readAnd_7] at h
  | succ n ih =>
    intro l1 l2 J r h
    rw [F_X2_readAnd_7] at h
    refine ev_iload_n zo_43_7 rfl rfl rfl ?_
    refine ev_sipush (x := 160) zo_43_8 (by decide) rfl ?_
    by_cases c1 : l2 < (160 : Int32)
    · rw [if_pos c1] at h
      refine ev_cmp_f (t := 49) zo_43_11 rfl (zcm_nge c1) rfl ?_
      refine ev_aload_n zo_43_14 rfl rfl rfl rfl ?_
      refine ev_getI zo_43_15 zf_43_51 (by decide) (Or.inl rfl) rfl rfl ?_
      refine ev_sipush (x := 10010) zo_43_18 (by decide) rfl ?_
      by_cases c2 : (J.2 5 5) = (10010 : Int32)
      · rw [if_pos c2] at h
        refine ev_cmp_f (t := 49) zo_43_21 rfl (zcm_nne c2) rfl ?_
        refine ev_aload_n zo_43_24 rfl rfl rfl rfl ?_
        obtain ⟨q3, hq3, h⟩ := zz_bd h
        refine ev_cV (as := []) (lsn := [.ref 5, zzU]) (by omega) zo_43_25 zl_43_38 (by rw [zm_51]; rfl) (by rw [zm_51]; exact rfl) (by rw [zm_51]; decide) (by unfold zzIn; rw [zm_51]; rfl) (by rw [zm_51]; exact Nat.le_of_ble_eq_true rfl) (Nat.le_of_ble_eq_true rfl) (G_X2_advance (by omega) J q3 hq3) rfl ?_
        show zzEv _ _ _ _ [] _ _
        refine ev_aload_n zo_43_28 rfl rfl rfl rfl ?_
        refine ev_iload_n zo_43_29 rfl rfl rfl ?_
        obtain ⟨q4, hq4, h⟩ := zz_bd h
        refine ev_cV (as := [.int l1]) (lsn := [.ref 5, .int l1, zzU]) (by omega) zo_43_30 zl_43_66 (by rw [zm_44]; rfl) (by rw [zm_44]; exact rfl) (by rw [zm_44]; decide) (by unfold zzIn; rw [zm_44]; rfl) (by rw [zm_44]; exact Nat.le_of_ble_eq_true rfl) (Nat.le_of_ble_eq_true rfl) (G_X2_readNot k_X2_readOr k_X2_readNot k_X2_readOne hk_X2_readOr hk_X2_readNot hk_X2_readOne (by omega) l1 q3 q4 hq4) rfl ?_
        show zzEv _ _ _ _ [] _ _
        refine ev_aload_n zo_43_33 rfl rfl rfl rfl ?_
        refine ev_getR zo_43_34 zf_43_9 (by decide) rfl rfl rfl rfl ?_
        refine ev_sipush (x := 10010) zo_43_37 (by decide) rfl ?_
        obtain ⟨q5, hq5, h⟩ := zz_bd h
        refine ev_cV (as := [.int (10010 : Int32)]) (lsn := [.ref 1, .int (10010 : Int32)]) (by omega) zo_43_40 zl_43_63 (by rw [zm_76]; rfl) (by rw [zm_76]; exact rfl) (by rw [zm_76]; decide) (by unfold zzIn; rw [zm_76]; rfl) (by rw [zm_76]; exact Nat.le_of_ble_eq_true rfl) (Nat.le_of_ble_eq_true rfl) (G_X5_add (by omega) (10010 : Int32) q4 q5 hq5) rfl ?_
        show zzEv _ _ _ _ [] _ _
        refine ev_iinc (v := 1) zo_43_43 rfl (by decide) (zz_set rfl (by decide) (Nat.le_of_ble_eq_true rfl)) rfl ?_
        show zzEv _ _ _ [.ref 5, .int l1, .int (l2 + 1)] _ _ _
        refine ev_goto (t := 7) zo_43_46 rfl ?_
        exact ih l1 (l2 + 1) q5 r h
      rw [if_neg c2] at h
      refine ev_cmp_t (t := 49) zo_43_21 rfl (zcm_ne c2) ?_
      obtain rfl := Option.some.inj h
      exact ev_retV zo_43_49 zr_43
    rw [if_neg c1] at h
    refine ev_cmp_t (t := 49) zo_43_11 rfl (zcm_ge c1) ?_
    obtain rfl := Option.some.inj h
    exact ev_retV zo_43_49 zr_43
def F_X2_readAnd (k_X2_readOr : Int32 → zzJ → Option (zzJ)) (k_X2_readNot : Int32 → zzJ → Option (zzJ)) (k_X2_readOne : Int32 → zzJ → Option (zzJ)) (x1 : Int32) (J : zzJ) : Option (zzJ) := (Option.bind (F_X2_readNot k_X2_readOr k_X2_readNot k_X2_readOne x1 J) fun q6 => F_X2_readAnd_7 k_X2_readOr k_X2_readNot k_X2_readOne 4096 x1 (0 : Int32) q6)
set_option maxRecDepth 100000 in
set_option maxHeartbeats 2000000 in
theorem G_X2_readAnd {D d : Nat} (k_X2_readOr : Int32 → zzJ → Option (zzJ)) (k_X2_readNot : Int32 → zzJ → Option (zzJ)) (k_X2_readOne : Int32 → zzJ → Option (zzJ)) (hk_X2_readOr : ∀ dd, D ≤ dd → ∀ (x1 : Int32) (J : zzJ) (q : zzJ), k_X2_readOr x1 J = some q → zzEv dd 42 0 [.ref 5, .int x1, zzU] [] (zK J) (none, zK q)) (hk_X2_readNot : ∀ dd, D ≤ dd → ∀ (x1 : Int32) (J : zzJ) (q : zzJ), k_X2_readNot x1 J = some q → zzEv dd 44 0 [.ref 5, .int x1, zzU] [] (zK J) (none, zK q)) (hk_X2_readOne : ∀ dd, D ≤ dd → ∀ (x1 : Int32) (J : zzJ) (q : zzJ), k_X2_readOne x1 J = some q → zzEv dd 47 0 [.ref 5, .int x1] [] (zK J) (none, zK q)) (hd : D + 9 ≤ d) (x1 : Int32) (J : zzJ) (r : zzJ) (h : F_X2_readAnd k_X2_readOr k_X2_readNot k_X2_readOne x1 J = some r) : zzEv d 43 0 [.ref 5, .int x1, zzU] [] (zK J) (none, zK r) := by
  unfold F_X2_readAnd at h
  refine ev_aload_n zo_43_0 rfl rfl rfl rfl ?_
  refine ev_iload_n zo_43_1 rfl rfl rfl ?_
  obtain ⟨q6, hq6, h⟩ := zz_bd h
  refine ev_cV (as := [.int x1]) (lsn := [.ref 5, .int x1, zzU]) (by omega) zo_43_2 zl_43_66 (by rw [zm_44]; rfl) (by rw [zm_44]; exact rfl) (by rw [zm_44]; decide) (by unfold zzIn; rw [zm_44]; rfl) (by rw [zm_44]; exact Nat.le_of_ble_eq_true rfl) (Nat.le_of_ble_eq_true rfl) (G_X2_readNot k_X2_readOr k_X2_readNot k_X2_readOne hk_X2_readOr hk_X2_readNot hk_X2_readOne (by omega) x1 J q6 hq6) rfl ?_
  show zzEv _ _ _ _ [] _ _
  refine ev_iconst (x := 0) zo_43_5 (by decide) rfl ?_
  refine ev_istore_n zo_43_6 rfl (zz_set rfl (by decide) (Nat.le_of_ble_eq_true rfl)) rfl ?_
  show zzEv _ _ _ [.ref 5, .int x1, .int (0 : Int32)] _ _ _
  exact G_X2_readAnd_7 k_X2_readOr k_X2_readNot k_X2_readOne hk_X2_readOr hk_X2_readNot hk_X2_readOne hd 4096 x1 (0 : Int32) q6 r h
/-! X2_readOr -/
def F_X2_readOr_7 (k_X2_readOr : Int32 → zzJ → Option (zzJ)) (k_X2_readNot : Int32 → zzJ → Option (zzJ)) (k_X2_readOne : Int32 → zzJ → Option (zzJ)) : Nat → Int32 → Int32 → zzJ → Option (zzJ)
  | 0, _, _, _ => none
  | n + 1, l1, l2, J => (if l2 < (160 : Int32) then (if (J.2 5 5) = (10009 : Int32) then (Option.bind (F_X2_advance J) fun q3 => (Option.bind (F_X2_readAnd k_X2_readOr k_X2_readNot k_X2_readOne l1 q3) fun q4 => (Option.bind (F_X5_add (10009 : Int32) q4) fun q5 => F_X2_readOr_7 k_X2_readOr k_X2_readNot k_X2_readOne n l1 (l2 + 1) q5))) else some J) else some J)
set_option maxRecDepth 100000 in
set_option maxHeartbeats 2000000 in
theorem G_X2_readOr_7 {D d : Nat} (k_X2_readOr : Int32 → zzJ → Option (zzJ)) (k_X2_readNot : Int32 → zzJ → Option (zzJ)) (k_X2_readOne : Int32 → zzJ → Option (zzJ)) (hk_X2_readOr : ∀ dd, D ≤ dd → ∀ (x1 : Int32) (J : zzJ) (q : zzJ), k_X2_readOr x1 J = some q → zzEv dd 42 0 [.ref 5, .int x1, zzU] [] (zK J) (none, zK q)) (hk_X2_readNot : ∀ dd, D ≤ dd → ∀ (x1 : Int32) (J : zzJ) (q : zzJ), k_X2_readNot x1 J = some q → zzEv dd 44 0 [.ref 5, .int x1, zzU] [] (zK J) (none, zK q)) (hk_X2_readOne : ∀ dd, D ≤ dd → ∀ (x1 : Int32) (J : zzJ) (q : zzJ), k_X2_readOne x1 J = some q → zzEv dd 47 0 [.ref 5, .int x1] [] (zK J) (none, zK q)) (hd : D + 10 ≤ d) : ∀ (n : Nat) (l1 : Int32) (l2 : Int32) (J : zzJ) (r : zzJ), F_X2_readOr_7 k_X2_readOr k_X2_readNot k_X2_readOne n l1 l2 J = some r → zzEv d 42 7 [.ref 5, .int l1, .int l2] [] (zK J) (none, zK r) := by
  intro n
  induction n with
  | zero => intro l1 l2 J r h; simp [F_X2_readOr_7] at h
  | succ n ih =>
    intro l1 l2 J r h
    rw [F_X2_readOr_7] at h
    refine ev_iload_n zo_42_7 rfl rfl rfl ?_
    refine ev_sipush (x := 160) zo_42_8 (by decide) rfl ?_
    by_cases c1 : l2 < (160 : Int32)
    · rw [if_pos c1] at h
      refine ev_cmp_f (t := 49) zo_42_11 rfl (zcm_nge c1) rfl ?_
      refine ev_aload_n zo_42_14 rfl rfl rfl rfl ?_
      refine ev_getI zo_42_15 zf_42_51 (by decide) (Or.inl rfl) rfl rfl ?_
      refine ev_sipush (x := 10009) zo_42_18 (by decide) rfl ?_
      by_cases c2 : (J.2 5 5) = (10009 : Int32)
      · rw [if_pos c2] at h
        refine ev_cmp_f (t := 49) zo_42_21 rfl (zcm_nne c2) rfl ?_
        refine ev_aload_n zo_42_24 rfl rfl rfl rfl ?_
        obtain ⟨q3, hq3, h⟩ := zz_bd h
        refine ev_cV (as := []) (lsn := [.ref 5, zzU]) (by omega) zo_42_25 zl_42_38 (by rw [zm_51]; rfl) (by rw [zm_51]; exact rfl) (by rw [zm_51]; decide) (by unfold zzIn; rw [zm_51]; rfl) (by rw [zm_51]; exact Nat.le_of_ble_eq_true rfl) (Nat.le_of_ble_eq_true rfl) (G_X2_advance (by omega) J q3 hq3) rfl ?_
        show zzEv _ _ _ _ [] _ _
        refine ev_aload_n zo_42_28 rfl rfl rfl rfl ?_
        refine ev_iload_n zo_42_29 rfl rfl rfl ?_
        obtain ⟨q4, hq4, h⟩ := zz_bd h
        refine ev_cV (as := [.int l1]) (lsn := [.ref 5, .int l1, zzU]) (by omega) zo_42_30 zl_42_60 (by rw [zm_43]; rfl) (by rw [zm_43]; exact rfl) (by rw [zm_43]; decide) (by unfold zzIn; rw [zm_43]; rfl) (by rw [zm_43]; exact Nat.le_of_ble_eq_true rfl) (Nat.le_of_ble_eq_true rfl) (G_X2_readAnd k_X2_readOr k_X2_readNot k_X2_readOne hk_X2_readOr hk_X2_readNot hk_X2_readOne (by omega) l1 q3 q4 hq4) rfl ?_
        show zzEv _ _ _ _ [] _ _
        refine ev_aload_n zo_42_33 rfl rfl rfl rfl ?_
        refine ev_getR zo_42_34 zf_42_9 (by decide) rfl rfl rfl rfl ?_
        refine ev_sipush (x := 10009) zo_42_37 (by decide) rfl ?_
        obtain ⟨q5, hq5, h⟩ := zz_bd h
        refine ev_cV (as := [.int (10009 : Int32)]) (lsn := [.ref 1, .int (10009 : Int32)]) (by omega) zo_42_40 zl_42_63 (by rw [zm_76]; rfl) (by rw [zm_76]; exact rfl) (by rw [zm_76]; decide) (by unfold zzIn; rw [zm_76]; rfl) (by rw [zm_76]; exact Nat.le_of_ble_eq_true rfl) (Nat.le_of_ble_eq_true rfl) (G_X5_add (by omega) (10009 : Int32) q4 q5 hq5) rfl ?_
        show zzEv _ _ _ _ [] _ _
        refine ev_iinc (v := 1) zo_42_43 rfl (by decide) (zz_set rfl (by decide) (Nat.le_of_ble_eq_true rfl)) rfl ?_
        show zzEv _ _ _ [.ref 5, .int l1, .int (l2 + 1)] _ _ _
        refine ev_goto (t := 7) zo_42_46 rfl ?_
        exact ih l1 (l2 + 1) q5 r h
      rw [if_neg c2] at h
      refine ev_cmp_t (t := 49) zo_42_21 rfl (zcm_ne c2) ?_
      obtain rfl := Option.some.inj h
      exact ev_retV zo_42_49 zr_42
    rw [if_neg c1] at h
    refine ev_cmp_t (t := 49) zo_42_11 rfl (zcm_ge c1) ?_
    obtain rfl := Option.some.inj h
    exact ev_retV zo_42_49 zr_42
def F_X2_readOr (k_X2_readOr : Int32 → zzJ → Option (zzJ)) (k_X2_readNot : Int32 → zzJ → Option (zzJ)) (k_X2_readOne : Int32 → zzJ → Option (zzJ)) (x1 : Int32) (J : zzJ) : Option (zzJ) := (Option.bind (F_X2_readAnd k_X2_readOr k_X2_readNot k_X2_readOne x1 J) fun q6 => F_X2_readOr_7 k_X2_readOr k_X2_readNot k_X2_readOne 4096 x1 (0 : Int32) q6)
set_option maxRecDepth 100000 in
set_option maxHeartbeats 2000000 in
theorem G_X2_readOr {D d : Nat} (k_X2_readOr : Int32 → zzJ → Option (zzJ)) (k_X2_readNot : Int32 → zzJ → Option (zzJ)) (k_X2_readOne : Int32 → zzJ → Option (zzJ)) (hk_X2_readOr : ∀ dd, D ≤ dd → ∀ (x1 : Int32) (J : zzJ) (q : zzJ), k_X2_readOr x1 J = some q → zzEv dd 42 0 [.ref 5, .int x1, zzU] [] (zK J) (none, zK q)) (hk_X2_readNot : ∀ dd, D ≤ dd → ∀ (x1 : Int32) (J : zzJ) (q : zzJ), k_X2_readNot x1 J = some q → zzEv dd 44 0 [.ref 5, .int x1, zzU] [] (zK J) (none, zK q)) (hk_X2_readOne : ∀ dd, D ≤ dd → ∀ (x1 : Int32) (J : zzJ) (q : zzJ), k_X2_readOne x1 J = some q → zzEv dd 47 0 [.ref 5, .int x1] [] (zK J) (none, zK q)) (hd : D + 10 ≤ d) (x1 : Int32) (J : zzJ) (r : zzJ) (h : F_X2_readOr k_X2_readOr k_X2_readNot k_X2_readOne x1 J = some r) : zzEv d 42 0 [.ref 5, .int x1, zzU] [] (zK J) (none, zK r) := by
  unfold F_X2_readOr at h
  refine ev_aload_n zo_42_0 rfl rfl rfl rfl ?_
  refine ev_iload_n zo_42_1 rfl rfl rfl ?_
  obtain ⟨q6, hq6, h⟩ := zz_bd h
  refine ev_cV (as := [.int x1]) (lsn := [.ref 5, .int x1, zzU]) (by omega) zo_42_2 zl_42_60 (by rw [zm_43]; rfl) (by rw [zm_43]; exact rfl) (by rw [zm_43]; decide) (by unfold zzIn; rw [zm_43]; rfl) (by rw [zm_43]; exact Nat.le_of_ble_eq_true rfl) (Nat.le_of_ble_eq_true rfl) (G_X2_readAnd k_X2_readOr k_X2_readNot k_X2_readOne hk_X2_readOr hk_X2_readNot hk_X2_readOne (by omega) x1 J q6 hq6) rfl ?_
  show zzEv _ _ _ _ [] _ _
  refine ev_iconst (x := 0) zo_42_5 (by decide) rfl ?_
  refine ev_istore_n zo_42_6 rfl (zz_set rfl (by decide) (Nat.le_of_ble_eq_true rfl)) rfl ?_
  show zzEv _ _ _ [.ref 5, .int x1, .int (0 : Int32)] _ _ _
  exact G_X2_readOr_7 k_X2_readOr k_X2_readNot k_X2_readOne hk_X2_readOr hk_X2_readNot hk_X2_readOne hd 4096 x1 (0 : Int32) q6 r h
