/-! the methods as functions, and that they are (written by wip/whole/gen2.py) -/
/-! X6_seatsTold -/
def F_X6_seatsTold_5 : Nat → Nat → Int32 → Int32 → Int32 → zzJ → Option (Int32 × zzJ)
  | 0, _, _, _, _, _ => none
  | n + 1, l1, l2, l3, l4, J => (if l4 < (24 : Int32) then (Option.bind (F_X0_isOpen 7 l4 l2 J) fun q2 => (if q2.1 = (0 : Int32) then F_X6_seatsTold_5 n l1 l2 l3 (l4 + 1) q2.2 else (Option.bind (F_X0_move 14 l2 l4 q2.2) fun q4 => (Option.bind (F_X0_otherwise 14 l1 q4) fun q5 => (if q5.1 = (0 : Int32) then F_X6_seatsTold_5 n l1 l2 (l3 ||| ((1 : Int32) <<< (l4 &&& 31))) (l4 + 1) q5.2 else F_X6_seatsTold_5 n l1 l2 l3 (l4 + 1) q5.2))))) else some (l3, J))
set_option maxRecDepth 100000 in
set_option maxHeartbeats 2000000 in
theorem G_X6_seatsTold_5 {d : Nat} (hd : 5 ≤ d) : ∀ (n : Nat) (l1 : Nat) (l2 : Int32) (l3 : Int32) (l4 : Int32) (J : zzJ) (r : Int32 × zzJ), F_X6_seatsTold_5 n l1 l2 l3 l4 J = some r → zzEv d 109 5 [.ref 0, .ref l1, .int l2, .int l3, .int l4] [] (zK J) (some (.int r.1), zK r.2) := by
  intro n
  induction n with
  | zero => intro l1 l2 l3 l4 J r h; simp [F_X6_seatsTold_5] at h
  | succ n ih =>
    intro l1 l2 l3 l4 J r h
    rw [F_X6_seatsTold_5] at h
    refine ev_iload zo_109_5 rfl rfl ?_
    refine ev_bipush (x := 24) zo_109_7 (by decide) rfl ?_
    by_cases c1 : l4 < (24 : Int32)
    · rw [if_pos c1] at h
      refine ev_cmp_f (t := 59) zo_109_9 rfl (zcm_nge c1) rfl ?_
      refine ev_aload_n zo_109_12 rfl rfl rfl rfl ?_
      refine ev_getR zo_109_13 zf_109_28 (by decide) rfl rfl rfl rfl ?_
      refine ev_iload zo_109_16 rfl rfl ?_
      refine ev_iload_n zo_109_18 rfl rfl rfl ?_
      obtain ⟨q2, hq2, h⟩ := zz_bd h
      refine ev_cV (as := [.int l2, .int l4]) (lsn := [.ref 7, .int l4, .int l2, zzU]) (by omega) zo_109_19 zl_109_186 (by rw [zm_10]; rfl) (by rw [zm_10]; exact rfl) (by rw [zm_10]; decide) (by unfold zzIn; rw [zm_10]; rfl) (by rw [zm_10]; exact Nat.le_of_ble_eq_true rfl) (Nat.le_of_ble_eq_true rfl) (G_X0_isOpen (by omega) 7 l4 l2 J q2 hq2) rfl ?_
      show zzEv _ _ _ _ [.int q2.1] _ _
      by_cases c3 : q2.1 = (0 : Int32)
      · rw [if_pos c3] at h
        refine ev_if_t (t := 53) zo_109_22 rfl (zcm_eq c3) ?_
        refine ev_iinc (v := 1) zo_109_53 rfl (by decide) (zz_set rfl (by decide) (Nat.le_of_ble_eq_true rfl)) rfl ?_
        show zzEv _ _ _ [.ref 0, .ref l1, .int l2, .int l3, .int (l4 + 1)] _ _ _
        refine ev_goto (t := 5) zo_109_56 rfl ?_
        exact ih l1 l2 l3 (l4 + 1) q2.2 r h
      rw [if_neg c3] at h
      refine ev_if_f (t := 53) zo_109_22 rfl (zcm_neq c3) rfl ?_
      refine ev_aload_n zo_109_25 rfl rfl rfl rfl ?_
      refine ev_getR zo_109_26 zf_109_32 (by decide) rfl rfl rfl rfl ?_
      refine ev_iload_n zo_109_29 rfl rfl rfl ?_
      refine ev_iload zo_109_30 rfl rfl ?_
      obtain ⟨q4, hq4, h⟩ := zz_bd h
      refine ev_cV (as := [.int l4, .int l2]) (lsn := [.ref 14, .int l2, .int l4]) (by omega) zo_109_32 zl_109_120 (by rw [zm_11]; rfl) (by rw [zm_11]; exact rfl) (by rw [zm_11]; decide) (by unfold zzIn; rw [zm_11]; rfl) (by rw [zm_11]; exact Nat.le_of_ble_eq_true rfl) (Nat.le_of_ble_eq_true rfl) (G_X0_move (by omega) 14 l2 l4 q2.2 q4 hq4) rfl ?_
      show zzEv _ _ _ _ [] _ _
      refine ev_aload_n zo_109_35 rfl rfl rfl rfl ?_
      refine ev_getR zo_109_36 zf_109_32 (by decide) rfl rfl rfl rfl ?_
      refine ev_aload_n zo_109_39 rfl rfl rfl rfl ?_
      obtain ⟨q5, hq5, h⟩ := zz_bd h
      refine ev_cV (as := [.ref l1]) (lsn := [.ref 14, .ref l1, zzU, zzU]) (by omega) zo_109_40 zl_109_255 (by rw [zm_28]; rfl) (by rw [zm_28]; exact rfl) (by rw [zm_28]; decide) (by unfold zzIn; rw [zm_28]; rfl) (by rw [zm_28]; exact Nat.le_of_ble_eq_true rfl) (Nat.le_of_ble_eq_true rfl) (G_X0_otherwise (by omega) 14 l1 q4 q5 hq5) rfl ?_
      show zzEv _ _ _ _ [.int q5.1] _ _
      by_cases c6 : q5.1 = (0 : Int32)
      · rw [if_pos c6] at h
        refine ev_if_f (t := 53) zo_109_43 rfl (zcm_nne c6) rfl ?_
        refine ev_iload_n zo_109_46 rfl rfl rfl ?_
        refine ev_iconst (x := 1) zo_109_47 (by decide) rfl ?_
        refine ev_iload zo_109_48 rfl rfl ?_
        refine ev_ishl zo_109_50 rfl ?_
        refine ev_ior zo_109_51 rfl ?_
        refine ev_istore_n zo_109_52 rfl (zz_set rfl (by decide) (Nat.le_of_ble_eq_true rfl)) rfl ?_
        show zzEv _ _ _ [.ref 0, .ref l1, .int l2, .int (l3 ||| ((1 : Int32) <<< (l4 &&& 31))), .int l4] _ _ _
        refine ev_iinc (v := 1) zo_109_53 rfl (by decide) (zz_set rfl (by decide) (Nat.le_of_ble_eq_true rfl)) rfl ?_
        show zzEv _ _ _ [.ref 0, .ref l1, .int l2, .int (l3 ||| ((1 : Int32) <<< (l4 &&& 31))), .int (l4 + 1)] _ _ _
        refine ev_goto (t := 5) zo_109_56 rfl ?_
        exact ih l1 l2 (l3 ||| ((1 : Int32) <<< (l4 &&& 31))) (l4 + 1) q5.2 r h
      rw [if_neg c6] at h
      refine ev_if_t (t := 53) zo_109_43 rfl (zcm_ne c6) ?_
      refine ev_iinc (v := 1) zo_109_53 rfl (by decide) (zz_set rfl (by decide) (Nat.le_of_ble_eq_true rfl)) rfl ?_
      show zzEv _ _ _ [.ref 0, .ref l1, .int l2, .int l3, .int (l4 + 1)] _ _ _
      refine ev_goto (t := 5) zo_109_56 rfl ?_
      exact ih l1 l2 l3 (l4 + 1) q5.2 r h
    rw [if_neg c1] at h
    refine ev_cmp_t (t := 59) zo_109_9 rfl (zcm_ge c1) ?_
    refine ev_iload_n zo_109_59 rfl rfl rfl ?_
    obtain rfl := Option.some.inj h
    exact ev_retI zo_109_60 zr_109
def F_X6_seatsTold (x1 : Nat) (x2 : Int32) (J : zzJ) : Option (Int32 × zzJ) := F_X6_seatsTold_5 4096 x1 x2 (0 : Int32) (0 : Int32) J
set_option maxRecDepth 100000 in
set_option maxHeartbeats 2000000 in
theorem G_X6_seatsTold {d : Nat} (hd : 5 ≤ d) (x1 : Nat) (x2 : Int32) (J : zzJ) (r : Int32 × zzJ) (h : F_X6_seatsTold x1 x2 J = some r) : zzEv d 109 0 [.ref 0, .ref x1, .int x2, zzU, zzU] [] (zK J) (some (.int r.1), zK r.2) := by
  unfold F_X6_seatsTold at h
  refine ev_iconst (x := 0) zo_109_0 (by decide) rfl ?_
  refine ev_istore_n zo_109_1 rfl (zz_set rfl (by decide) (Nat.le_of_ble_eq_true rfl)) rfl ?_
  show zzEv _ _ _ [.ref 0, .ref x1, .int x2, .int (0 : Int32), zzU] _ _ _
  refine ev_iconst (x := 0) zo_109_2 (by decide) rfl ?_
  refine ev_istore zo_109_3 (zz_set rfl (by decide) (Nat.le_of_ble_eq_true rfl)) rfl ?_
  show zzEv _ _ _ [.ref 0, .ref x1, .int x2, .int (0 : Int32), .int (0 : Int32)] _ _ _
  exact G_X6_seatsTold_5 hd 4096 x1 x2 (0 : Int32) (0 : Int32) J r h
/-! X6_tells -/
def F_X6_tells_72 (l2 : Int32) (l3 : Nat) (J : zzJ) : Option (Int32 × zzJ) := (if zKd l3 = 4 then (Option.bind (F_X4_isMissing l3 J) fun q2 => (if q2.1 = (0 : Int32) then (if (q2.2.2 l3 1) = (q2.2.2 7 4) then (Option.bind (F_X0_take 14 7 q2.2) fun q5 => (if (l2 / (10 : Int32)) = 1 then (Option.bind (F_X6_itemsTold l3 15 (zRem l2 (10 : Int32)) (6 : Int32) q5) fun q7 => some (q7.1, q7.2)) else (if (l2 / (10 : Int32)) = 2 then (Option.bind (F_X6_itemsTold l3 16 (zRem l2 (10 : Int32)) (10 : Int32) q5) fun q9 => some (q9.1, q9.2)) else (if (l2 / (10 : Int32)) = 3 then (Option.bind (F_X6_seatsTold l3 (zRem l2 (10 : Int32)) q5) fun q11 => some (q11.1, q11.2)) else (if l2 = 0 then (Option.bind (F_X0_otherwise 14 l3 q5) fun q13 => some (q13.1, q13.2)) else (if l2 = 1 then (Option.bind (F_X6_textsTold l3 q5) fun q15 => some (q15.1, q15.2)) else (if l2 = 2 then (Option.bind (F_X6_milesTold l3 q5) fun q17 => some (q17.1, q17.2)) else (Option.bind (F_X6_leastMileTold l3 q5) fun q18 => some (q18.1, q18.2))))))))) else some ((-2 : Int32), q2.2)) else some ((-11 : Int32), q2.2))) else none)
set_option maxRecDepth 100000 in
set_option maxHeartbeats 2000000 in
theorem G_X6_tells_72 {d : Nat} (hd : 6 ≤ d) : ∀ (l2 : Int32) (l3 : Nat) (J : zzJ) (r : Int32 × zzJ), F_X6_tells_72 l2 l3 J = some r → ∀ (lv1 : Value) (hlv1 : lv1.category = 1), ∀ (lv4 : Value) (hlv4 : lv4.category = 1), ∀ (lv5 : Value) (hlv5 : lv5.category = 1), zzEv d 104 72 [.ref 0, lv1, .int l2, .ref l3, lv4, lv5, zzU] [] (zK J) (some (.int r.1), zK r.2) := by
  intro l2 l3 J r h lv1 hlv1 lv4 hlv4 lv5 hlv5
  unfold F_X6_tells_72 at h
  refine ev_aload_n zo_104_72 rfl rfl rfl rfl ?_
  obtain ⟨c1, h⟩ := zz_chk h
  obtain ⟨q2, hq2, h⟩ := zz_bd h
  refine ev_cV (as := []) (lsn := [.ref l3]) (by omega) zo_104_73 zl_104_239 (by rw [zm_69]; rfl) (by rw [zm_69]; exact c1) (by rw [zm_69]; decide) (by unfold zzIn; rw [zm_69]; rfl) (by rw [zm_69]; exact Nat.le_of_ble_eq_true rfl) (Nat.le_of_ble_eq_true rfl) (G_X4_isMissing (by omega) l3 J q2 hq2) rfl ?_
  show zzEv _ _ _ _ [.int q2.1] _ _
  by_cases c3 : q2.1 = (0 : Int32)
  · rw [if_pos c3] at h
    refine ev_if_t (t := 82) zo_104_76 rfl (zcm_eq c3) ?_
    refine ev_aload_n zo_104_82 rfl rfl rfl rfl ?_
    refine ev_getI zo_104_83 zf_104_243 (by decide) (Or.inl rfl) c1 rfl ?_
    refine ev_aload_n zo_104_86 rfl rfl rfl rfl ?_
    refine ev_getR zo_104_87 zf_104_28 (by decide) rfl rfl rfl rfl ?_
    refine ev_getI zo_104_90 zf_104_108 (by decide) (Or.inl rfl) rfl rfl ?_
    by_cases c4 : (q2.2.2 l3 1) = (q2.2.2 7 4)
    · rw [if_pos c4] at h
      refine ev_cmp_t (t := 99) zo_104_93 rfl (zcm_eq c4) ?_
      refine ev_aload_n zo_104_99 rfl rfl rfl rfl ?_
      refine ev_getR zo_104_100 zf_104_32 (by decide) rfl rfl rfl rfl ?_
      refine ev_aload_n zo_104_103 rfl rfl rfl rfl ?_
      refine ev_getR zo_104_104 zf_104_28 (by decide) rfl rfl rfl rfl ?_
      obtain ⟨q5, hq5, h⟩ := zz_bd h
      refine ev_cV (as := [.ref 7]) (lsn := [.ref 14, .ref 7]) (by omega) zo_104_107 zl_104_216 (by rw [zm_1]; rfl) (by rw [zm_1]; exact rfl) (by rw [zm_1]; decide) (by unfold zzIn; rw [zm_1]; rfl) (by rw [zm_1]; exact Nat.le_of_ble_eq_true rfl) (Nat.le_of_ble_eq_true rfl) (G_X0_take (by omega) 14 7 q2.2 q5 hq5) rfl ?_
      show zzEv _ _ _ _ [] _ _
      refine ev_iload_n zo_104_110 rfl rfl rfl ?_
      refine ev_bipush (x := 10) zo_104_111 (by decide) rfl ?_
      refine ev_irem zo_104_113 (by decide) rfl ?_
      refine ev_istore zo_104_114 (zz_set (zz_lg (j := 5) rfl hlv5) (by decide) (Nat.le_of_ble_eq_true rfl)) rfl ?_
      show zzEv _ _ _ [.ref 0, lv1, .int l2, .ref l3, lv4, lv5, .int (zRem l2 (10 : Int32))] _ _ _
      refine ev_iload_n zo_104_116 rfl rfl rfl ?_
      refine ev_bipush (x := 10) zo_104_117 (by decide) rfl ?_
      refine ev_idiv zo_104_119 (by decide) rfl ?_
      by_cases s6 : (l2 / (10 : Int32)) = 1
      · rw [if_pos s6] at h
        refine ev_tableIn (t := 148) zo_104_120 s6 rfl ?_
        refine ev_aload_n zo_104_148 rfl rfl rfl rfl ?_
        refine ev_aload_n zo_104_149 rfl rfl rfl rfl ?_
        refine ev_aload_n zo_104_150 rfl rfl rfl rfl ?_
        refine ev_getR zo_104_151 zf_104_32 (by decide) rfl rfl rfl rfl ?_
        refine ev_getR zo_104_154 zf_104_244 (by decide) rfl rfl rfl rfl ?_
        refine ev_iload zo_104_157 rfl rfl ?_
        refine ev_bipush (x := 6) zo_104_159 (by decide) rfl ?_
        obtain ⟨q7, hq7, h⟩ := zz_bd h
        refine ev_cV (as := [.int (6 : Int32), .int (zRem l2 (10 : Int32)), .ref 15, .ref l3]) (lsn := [.ref 0, .ref l3, .ref 15, .int (zRem l2 (10 : Int32)), .int (6 : Int32), zzU, zzU]) (by omega) zo_104_161 zl_104_247 (by rw [zm_108]; rfl) (by rw [zm_108]; exact rfl) (by rw [zm_108]; decide) (by unfold zzIn; rw [zm_108]; rfl) (by rw [zm_108]; exact Nat.le_of_ble_eq_true rfl) (Nat.le_of_ble_eq_true rfl) (G_X6_itemsTold (by omega) l3 15 (zRem l2 (10 : Int32)) (6 : Int32) q5 q7 hq7) rfl ?_
        show zzEv _ _ _ _ [.int q7.1] _ _
        obtain rfl := Option.some.inj h
        exact ev_retI zo_104_164 zr_104
      rw [if_neg s6] at h
      by_cases s8 : (l2 / (10 : Int32)) = 2
      · rw [if_pos s8] at h
        refine ev_tableIn (t := 165) zo_104_120 s8 rfl ?_
        refine ev_aload_n zo_104_165 rfl rfl rfl rfl ?_
        refine ev_aload_n zo_104_166 rfl rfl rfl rfl ?_
        refine ev_aload_n zo_104_167 rfl rfl rfl rfl ?_
        refine ev_getR zo_104_168 zf_104_32 (by decide) rfl rfl rfl rfl ?_
        refine ev_getR zo_104_171 zf_104_90 (by decide) rfl rfl rfl rfl ?_
        refine ev_iload zo_104_174 rfl rfl ?_
        refine ev_bipush (x := 10) zo_104_176 (by decide) rfl ?_
        obtain ⟨q9, hq9, h⟩ := zz_bd h
        refine ev_cV (as := [.int (10 : Int32), .int (zRem l2 (10 : Int32)), .ref 16, .ref l3]) (lsn := [.ref 0, .ref l3, .ref 16, .int (zRem l2 (10 : Int32)), .int (10 : Int32), zzU, zzU]) (by omega) zo_104_178 zl_104_247 (by rw [zm_108]; rfl) (by rw [zm_108]; exact rfl) (by rw [zm_108]; decide) (by unfold zzIn; rw [zm_108]; rfl) (by rw [zm_108]; exact Nat.le_of_ble_eq_true rfl) (Nat.le_of_ble_eq_true rfl) (G_X6_itemsTold (by omega) l3 16 (zRem l2 (10 : Int32)) (10 : Int32) q5 q9 hq9) rfl ?_
        show zzEv _ _ _ _ [.int q9.1] _ _
        obtain rfl := Option.some.inj h
        exact ev_retI zo_104_181 zr_104
      rw [if_neg s8] at h
      by_cases s10 : (l2 / (10 : Int32)) = 3
      · rw [if_pos s10] at h
        refine ev_tableIn (t := 182) zo_104_120 s10 rfl ?_
        refine ev_aload_n zo_104_182 rfl rfl rfl rfl ?_
        refine ev_aload_n zo_104_183 rfl rfl rfl rfl ?_
        refine ev_iload zo_104_184 rfl rfl ?_
        obtain ⟨q11, hq11, h⟩ := zz_bd h
        refine ev_cV (as := [.int (zRem l2 (10 : Int32)), .ref l3]) (lsn := [.ref 0, .ref l3, .int (zRem l2 (10 : Int32)), zzU, zzU]) (by omega) zo_104_186 zl_104_251 (by rw [zm_109]; rfl) (by rw [zm_109]; exact rfl) (by rw [zm_109]; decide) (by unfold zzIn; rw [zm_109]; rfl) (by rw [zm_109]; exact Nat.le_of_ble_eq_true rfl) (Nat.le_of_ble_eq_true rfl) (G_X6_seatsTold (by omega) l3 (zRem l2 (10 : Int32)) q5 q11 hq11) rfl ?_
        show zzEv _ _ _ _ [.int q11.1] _ _
        obtain rfl := Option.some.inj h
        exact ev_retI zo_104_189 zr_104
      rw [if_neg s10] at h
      refine ev_tableOut (t := 190) zo_104_120 (sw_out 3 rfl fun k hk => ?_) rfl ?_
      · rcases (show k = 0 ∨ k = 1 ∨ k = 2 by omega) with rfl | rfl | rfl
        · exact sw_ne s6 (by decide)
        · exact sw_ne s8 (by decide)
        · exact sw_ne s10 (by decide)
      refine ev_iload_n zo_104_190 rfl rfl rfl ?_
      by_cases s12 : l2 = 0
      · rw [if_pos s12] at h
        refine ev_tableIn (t := 216) zo_104_191 s12 rfl ?_
        refine ev_aload_n zo_104_216 rfl rfl rfl rfl ?_
        refine ev_getR zo_104_217 zf_104_32 (by decide) rfl rfl rfl rfl ?_
        refine ev_aload_n zo_104_220 rfl rfl rfl rfl ?_
        obtain ⟨q13, hq13, h⟩ := zz_bd h
        refine ev_cV (as := [.ref l3]) (lsn := [.ref 14, .ref l3, zzU, zzU]) (by omega) zo_104_221 zl_104_255 (by rw [zm_28]; rfl) (by rw [zm_28]; exact rfl) (by rw [zm_28]; decide) (by unfold zzIn; rw [zm_28]; rfl) (by rw [zm_28]; exact Nat.le_of_ble_eq_true rfl) (Nat.le_of_ble_eq_true rfl) (G_X0_otherwise (by omega) 14 l3 q5 q13 hq13) rfl ?_
        show zzEv _ _ _ _ [.int q13.1] _ _
        obtain rfl := Option.some.inj h
        exact ev_retI zo_104_224 zr_104
      rw [if_neg s12] at h
      by_cases s14 : l2 = 1
      · rw [if_pos s14] at h
        refine ev_tableIn (t := 225) zo_104_191 s14 rfl ?_
        refine ev_aload_n zo_104_225 rfl rfl rfl rfl ?_
        refine ev_aload_n zo_104_226 rfl rfl rfl rfl ?_
        obtain ⟨q15, hq15, h⟩ := zz_bd h
        refine ev_cV (as := [.ref l3]) (lsn := [.ref 0, .ref l3, zzU, zzU]) (by omega) zo_104_227 zl_104_259 (by rw [zm_105]; rfl) (by rw [zm_105]; exact rfl) (by rw [zm_105]; decide) (by unfold zzIn; rw [zm_105]; rfl) (by rw [zm_105]; exact Nat.le_of_ble_eq_true rfl) (Nat.le_of_ble_eq_true rfl) (G_X6_textsTold (by omega) l3 q5 q15 hq15) rfl ?_
        show zzEv _ _ _ _ [.int q15.1] _ _
        obtain rfl := Option.some.inj h
        exact ev_retI zo_104_230 zr_104
      rw [if_neg s14] at h
      by_cases s16 : l2 = 2
      · rw [if_pos s16] at h
        refine ev_tableIn (t := 231) zo_104_191 s16 rfl ?_
        refine ev_aload_n zo_104_231 rfl rfl rfl rfl ?_
        refine ev_aload_n zo_104_232 rfl rfl rfl rfl ?_
        obtain ⟨q17, hq17, h⟩ := zz_bd h
        refine ev_cV (as := [.ref l3]) (lsn := [.ref 0, .ref l3, zzU, zzU]) (by omega) zo_104_233 zl_104_262 (by rw [zm_106]; rfl) (by rw [zm_106]; exact rfl) (by rw [zm_106]; decide) (by unfold zzIn; rw [zm_106]; rfl) (by rw [zm_106]; exact Nat.le_of_ble_eq_true rfl) (Nat.le_of_ble_eq_true rfl) (G_X6_milesTold (by omega) l3 q5 q17 hq17) rfl ?_
        show zzEv _ _ _ _ [.int q17.1] _ _
        obtain rfl := Option.some.inj h
        exact ev_retI zo_104_236 zr_104
      rw [if_neg s16] at h
      refine ev_tableOut (t := 237) zo_104_191 (sw_out 3 rfl fun k hk => ?_) rfl ?_
      · rcases (show k = 0 ∨ k = 1 ∨ k = 2 by omega) with rfl | rfl | rfl
        · exact sw_ne s12 (by decide)
        · exact sw_ne s14 (by decide)
        · exact sw_ne s16 (by decide)
      refine ev_aload_n zo_104_237 rfl rfl rfl rfl ?_
      refine ev_aload_n zo_104_238 rfl rfl rfl rfl ?_
      obtain ⟨q18, hq18, h⟩ := zz_bd h
      refine ev_cV (as := [.ref l3]) (lsn := [.ref 0, .ref l3, zzU]) (by omega) zo_104_239 zl_104_265 (by rw [zm_107]; rfl) (by rw [zm_107]; exact rfl) (by rw [zm_107]; decide) (by unfold zzIn; rw [zm_107]; rfl) (by rw [zm_107]; exact Nat.le_of_ble_eq_true rfl) (Nat.le_of_ble_eq_true rfl) (G_X6_leastMileTold (by omega) l3 q5 q18 hq18) rfl ?_
      show zzEv _ _ _ _ [.int q18.1] _ _
      obtain rfl := Option.some.inj h
      exact ev_retI zo_104_242 zr_104
    rw [if_neg c4] at h
    refine ev_cmp_f (t := 99) zo_104_93 rfl (zcm_neq c4) rfl ?_
    refine ev_bipush (x := (-2)) zo_104_96 (by decide) rfl ?_
    obtain rfl := Option.some.inj h
    exact ev_retI zo_104_98 zr_104
  rw [if_neg c3] at h
  refine ev_if_f (t := 82) zo_104_76 rfl (zcm_neq c3) rfl ?_
  refine ev_bipush (x := (-11)) zo_104_79 (by decide) rfl ?_
  obtain rfl := Option.some.inj h
  exact ev_retI zo_104_81 zr_104
def F_X6_tells_53 (l2 : Int32) (l3 : Option Nat) (l4 : Int32) (t0 : Int32) (J : zzJ) : Option (Int32 × zzJ) := (match l3 with | none => some ((-2 : Int32), J) | some b20 => (if l4 = (0 : Int32) then (if t0 = (0 : Int32) then some ((-2 : Int32), J) else F_X6_tells_72 l2 b20 J) else F_X6_tells_72 l2 b20 J))
set_option maxRecDepth 100000 in
set_option maxHeartbeats 2000000 in
theorem G_X6_tells_53 {d : Nat} (hd : 6 ≤ d) : ∀ (l2 : Int32) (l3 : Option Nat) (l4 : Int32) (t0 : Int32) (J : zzJ) (r : Int32 × zzJ), F_X6_tells_53 l2 l3 l4 t0 J = some r → ∀ (lv1 : Value) (hlv1 : lv1.category = 1), zzEv d 104 53 [.ref 0, lv1, .int l2, va_rf l3, .int l4, zzU, zzU] [.int t0] (zK J) (some (.int r.1), zK r.2) := by
  intro l2 l3 l4 t0 J r h lv1 hlv1
  unfold F_X6_tells_53 at h
  refine ev_istore zo_104_53 (zz_set rfl (by decide) (Nat.le_of_ble_eq_true rfl)) rfl ?_
  show zzEv _ _ _ [.ref 0, lv1, .int l2, va_rf l3, .int l4, .int t0, zzU] _ _ _
  refine ev_aload_n zo_104_55 rfl rfl (zz_is3 _) rfl ?_
  generalize l3 = o19 at h ⊢
  cases o19 with
  | none =>
    dsimp only at h
    refine ev_ifnull_n (t := 69) zo_104_56 rfl ?_
    refine ev_bipush (x := (-2)) zo_104_69 (by decide) rfl ?_
    obtain rfl := Option.some.inj h
    exact ev_retI zo_104_71 zr_104
  | some b20 =>
    dsimp only at h
    refine ev_ifnull_r (t := 69) zo_104_56 rfl rfl ?_
    refine ev_iload zo_104_59 rfl rfl ?_
    by_cases c21 : l4 = (0 : Int32)
    · rw [if_pos c21] at h
      refine ev_if_f (t := 72) zo_104_61 rfl (zcm_nne c21) rfl ?_
      refine ev_iload zo_104_64 rfl rfl ?_
      by_cases c22 : t0 = (0 : Int32)
      · rw [if_pos c22] at h
        refine ev_if_f (t := 72) zo_104_66 rfl (zcm_nne c22) rfl ?_
        refine ev_bipush (x := (-2)) zo_104_69 (by decide) rfl ?_
        obtain rfl := Option.some.inj h
        exact ev_retI zo_104_71 zr_104
      rw [if_neg c22] at h
      refine ev_if_t (t := 72) zo_104_66 rfl (zcm_ne c22) ?_
      exact G_X6_tells_72 hd l2 b20 J r h (lv1) hlv1 (.int l4) rfl (.int t0) rfl
    rw [if_neg c21] at h
    refine ev_if_t (t := 72) zo_104_61 rfl (zcm_ne c21) ?_
    exact G_X6_tells_72 hd l2 b20 J r h (lv1) hlv1 (.int l4) rfl (.int t0) rfl
def F_X6_tells_52 (l2 : Int32) (l3 : Option Nat) (l4 : Int32) (J : zzJ) : Option (Int32 × zzJ) := F_X6_tells_53 l2 l3 l4 (0 : Int32) J
set_option maxRecDepth 100000 in
set_option maxHeartbeats 2000000 in
theorem G_X6_tells_52 {d : Nat} (hd : 6 ≤ d) : ∀ (l2 : Int32) (l3 : Option Nat) (l4 : Int32) (J : zzJ) (r : Int32 × zzJ), F_X6_tells_52 l2 l3 l4 J = some r → ∀ (lv1 : Value) (hlv1 : lv1.category = 1), zzEv d 104 52 [.ref 0, lv1, .int l2, va_rf l3, .int l4, zzU, zzU] [] (zK J) (some (.int r.1), zK r.2) := by
  intro l2 l3 l4 J r h lv1 hlv1
  unfold F_X6_tells_52 at h
  refine ev_iconst (x := 0) zo_104_52 (by decide) rfl ?_
  exact G_X6_tells_53 hd l2 l3 l4 (0 : Int32) J r h (lv1) hlv1
def F_X6_tells_20 (l2 : Int32) (l3 : Option Nat) (t0 : Int32) (J : zzJ) : Option (Int32 × zzJ) := (if l2 < (10 : Int32) then F_X6_tells_52 l2 l3 t0 J else (if l2 < (40 : Int32) then (Option.bind (F_X0_has 7 (zRem l2 (10 : Int32)) J) fun q25 => (if q25.1 = (0 : Int32) then F_X6_tells_52 l2 l3 t0 q25.2 else F_X6_tells_53 l2 l3 t0 (1 : Int32) q25.2)) else F_X6_tells_52 l2 l3 t0 J))
set_option maxRecDepth 100000 in
set_option maxHeartbeats 2000000 in
theorem G_X6_tells_20 {d : Nat} (hd : 6 ≤ d) : ∀ (l2 : Int32) (l3 : Option Nat) (t0 : Int32) (J : zzJ) (r : Int32 × zzJ), F_X6_tells_20 l2 l3 t0 J = some r → ∀ (lv1 : Value) (hlv1 : lv1.category = 1), zzEv d 104 20 [.ref 0, lv1, .int l2, va_rf l3, zzU, zzU, zzU] [.int t0] (zK J) (some (.int r.1), zK r.2) := by
  intro l2 l3 t0 J r h lv1 hlv1
  unfold F_X6_tells_20 at h
  refine ev_istore zo_104_20 (zz_set (zz_lg (j := 3) rfl (zz_cat_rf _)) (by decide) (Nat.le_of_ble_eq_true rfl)) rfl ?_
  show zzEv _ _ _ [.ref 0, lv1, .int l2, va_rf l3, .int t0, zzU, zzU] _ _ _
  refine ev_iload_n zo_104_22 rfl rfl rfl ?_
  refine ev_bipush (x := 10) zo_104_23 (by decide) rfl ?_
  by_cases c23 : l2 < (10 : Int32)
  · rw [if_pos c23] at h
    refine ev_cmp_t (t := 52) zo_104_25 rfl (zcm_lt c23) ?_
    exact G_X6_tells_52 hd l2 l3 t0 J r h (lv1) hlv1
  rw [if_neg c23] at h
  refine ev_cmp_f (t := 52) zo_104_25 rfl (zcm_nlt c23) rfl ?_
  refine ev_iload_n zo_104_28 rfl rfl rfl ?_
  refine ev_bipush (x := 40) zo_104_29 (by decide) rfl ?_
  by_cases c24 : l2 < (40 : Int32)
  · rw [if_pos c24] at h
    refine ev_cmp_f (t := 52) zo_104_31 rfl (zcm_nge c24) rfl ?_
    refine ev_aload_n zo_104_34 rfl rfl rfl rfl ?_
    refine ev_getR zo_104_35 zf_104_28 (by decide) rfl rfl rfl rfl ?_
    refine ev_iload_n zo_104_38 rfl rfl rfl ?_
    refine ev_bipush (x := 10) zo_104_39 (by decide) rfl ?_
    refine ev_irem zo_104_41 (by decide) rfl ?_
    obtain ⟨q25, hq25, h⟩ := zz_bd h
    refine ev_cV (as := [.int (zRem l2 (10 : Int32))]) (lsn := [.ref 7, .int (zRem l2 (10 : Int32))]) (by omega) zo_104_42 zl_104_86 (by rw [zm_2]; rfl) (by rw [zm_2]; exact rfl) (by rw [zm_2]; decide) (by unfold zzIn; rw [zm_2]; rfl) (by rw [zm_2]; exact Nat.le_of_ble_eq_true rfl) (Nat.le_of_ble_eq_true rfl) (G_X0_has (by omega) 7 (zRem l2 (10 : Int32)) J q25 hq25) rfl ?_
    show zzEv _ _ _ _ [.int q25.1] _ _
    by_cases c26 : q25.1 = (0 : Int32)
    · rw [if_pos c26] at h
      refine ev_if_t (t := 52) zo_104_45 rfl (zcm_eq c26) ?_
      exact G_X6_tells_52 hd l2 l3 t0 q25.2 r h (lv1) hlv1
    rw [if_neg c26] at h
    refine ev_if_f (t := 52) zo_104_45 rfl (zcm_neq c26) rfl ?_
    refine ev_iconst (x := 1) zo_104_48 (by decide) rfl ?_
    refine ev_goto (t := 53) zo_104_49 rfl ?_
    exact G_X6_tells_53 hd l2 l3 t0 (1 : Int32) q25.2 r h (lv1) hlv1
  rw [if_neg c24] at h
  refine ev_cmp_t (t := 52) zo_104_31 rfl (zcm_ge c24) ?_
  exact G_X6_tells_52 hd l2 l3 t0 J r h (lv1) hlv1
def F_X6_tells_19 (l2 : Int32) (l3 : Option Nat) (J : zzJ) : Option (Int32 × zzJ) := F_X6_tells_20 l2 l3 (0 : Int32) J
set_option maxRecDepth 100000 in
set_option maxHeartbeats 2000000 in
theorem G_X6_tells_19 {d : Nat} (hd : 6 ≤ d) : ∀ (l2 : Int32) (l3 : Option Nat) (J : zzJ) (r : Int32 × zzJ), F_X6_tells_19 l2 l3 J = some r → ∀ (lv1 : Value) (hlv1 : lv1.category = 1), zzEv d 104 19 [.ref 0, lv1, .int l2, va_rf l3, zzU, zzU, zzU] [] (zK J) (some (.int r.1), zK r.2) := by
  intro l2 l3 J r h lv1 hlv1
  unfold F_X6_tells_19 at h
  refine ev_iconst (x := 0) zo_104_19 (by decide) rfl ?_
  exact G_X6_tells_20 hd l2 l3 (0 : Int32) J r h (lv1) hlv1
def F_X6_tells (x1 : Int32) (x2 : Int32) (J : zzJ) : Option (Int32 × zzJ) := (Option.bind (F_X6_sheetAt x1 J) fun q27 => (if x2 < (0 : Int32) then F_X6_tells_19 x2 q27.1 q27.2 else (if (3 : Int32) < x2 then F_X6_tells_19 x2 q27.1 q27.2 else F_X6_tells_20 x2 q27.1 (1 : Int32) q27.2)))
set_option maxRecDepth 100000 in
set_option maxHeartbeats 2000000 in
theorem G_X6_tells {d : Nat} (hd : 6 ≤ d) (x1 : Int32) (x2 : Int32) (J : zzJ) (r : Int32 × zzJ) (h : F_X6_tells x1 x2 J = some r) : zzEv d 104 0 [.ref 0, .int x1, .int x2, zzU, zzU, zzU, zzU] [] (zK J) (some (.int r.1), zK r.2) := by
  unfold F_X6_tells at h
  refine ev_aload_n zo_104_0 rfl rfl rfl rfl ?_
  refine ev_iload_n zo_104_1 rfl rfl rfl ?_
  obtain ⟨q27, hq27, h⟩ := zz_bd h
  refine ev_cV (as := [.int x1]) (lsn := [.ref 0, .int x1]) (by omega) zo_104_2 zl_104_208 (by rw [zm_124]; rfl) (by rw [zm_124]; exact rfl) (by rw [zm_124]; decide) (by unfold zzIn; rw [zm_124]; rfl) (by rw [zm_124]; exact Nat.le_of_ble_eq_true rfl) (Nat.le_of_ble_eq_true rfl) (G_X6_sheetAt (by omega) x1 J q27 hq27) rfl ?_
  show zzEv _ _ _ _ [va_rf q27.1] _ _
  refine ev_astore_n zo_104_5 rfl (zz_is3 _) (zz_set rfl (by decide) (Nat.le_of_ble_eq_true rfl)) rfl ?_
  show zzEv _ _ _ [.ref 0, .int x1, .int x2, va_rf q27.1, zzU, zzU, zzU] _ _ _
  refine ev_iload_n zo_104_6 rfl rfl rfl ?_
  by_cases c28 : x2 < (0 : Int32)
  · rw [if_pos c28] at h
    refine ev_if_t (t := 19) zo_104_7 rfl (zcm_lt c28) ?_
    exact G_X6_tells_19 hd x2 q27.1 q27.2 r h (.int x1) rfl
  rw [if_neg c28] at h
  refine ev_if_f (t := 19) zo_104_7 rfl (zcm_nlt c28) rfl ?_
  refine ev_iload_n zo_104_10 rfl rfl rfl ?_
  refine ev_iconst (x := 3) zo_104_11 (by decide) rfl ?_
  by_cases c29 : (3 : Int32) < x2
  · rw [if_pos c29] at h
    refine ev_cmp_t (t := 19) zo_104_12 rfl (zcm_gt c29) ?_
    exact G_X6_tells_19 hd x2 q27.1 q27.2 r h (.int x1) rfl
  rw [if_neg c29] at h
  refine ev_cmp_f (t := 19) zo_104_12 rfl (zcm_ngt c29) rfl ?_
  refine ev_iconst (x := 1) zo_104_15 (by decide) rfl ?_
  refine ev_goto (t := 20) zo_104_16 rfl ?_
  exact G_X6_tells_20 hd x2 q27.1 (1 : Int32) q27.2 r h (.int x1) rfl
/-! X6_film -/
def F_X6_film_27 : Nat → Nat → Int32 → zzJ → Option (Int32 × zzJ)
  | 0, _, _, _ => none
  | n + 1, l2, l3, J => (if l3 < (J.2 7 4) then (Option.bind (F_X0_noise 7 l3 J) fun q2 => (if zKd l2 = 4 then (Option.bind (F_X4_write l2 l3 q2.1 q2.2) fun q4 => F_X6_film_27 n l2 (l3 + 1) q4) else none)) else some ((J.2 7 4), J))
set_option maxRecDepth 100000 in
set_option maxHeartbeats 2000000 in
theorem G_X6_film_27 {d : Nat} (hd : 4 ≤ d) : ∀ (n : Nat) (l2 : Nat) (l3 : Int32) (J : zzJ) (r : Int32 × zzJ), F_X6_film_27 n l2 l3 J = some r → ∀ (lv1 : Value) (hlv1 : lv1.category = 1), zzEv d 110 27 [.ref 0, lv1, .ref l2, .int l3] [] (zK J) (some (.int r.1), zK r.2) := by
  intro n
  induction n with
  | zero => intro l2 l3 J r h; simp [F_X6_film_27] at h
  | succ n ih =>
    intro l2 l3 J r h lv1 hlv1
    rw [F_X6_film_27] at h
    refine ev_iload_n zo_110_27 rfl rfl rfl ?_
    refine ev_aload_n zo_110_28 rfl rfl rfl rfl ?_
    refine ev_getR zo_110_29 zf_110_28 (by decide) rfl rfl rfl rfl ?_
    refine ev_getI zo_110_32 zf_110_108 (by decide) (Or.inl rfl) rfl rfl ?_
    by_cases c1 : l3 < (J.2 7 4)
    · rw [if_pos c1] at h
      refine ev_cmp_f (t := 57) zo_110_35 rfl (zcm_nge c1) rfl ?_
      refine ev_aload_n zo_110_38 rfl rfl rfl rfl ?_
      refine ev_iload_n zo_110_39 rfl rfl rfl ?_
      refine ev_aload_n zo_110_40 rfl rfl rfl rfl ?_
      refine ev_getR zo_110_41 zf_110_28 (by decide) rfl rfl rfl rfl ?_
      refine ev_iload_n zo_110_44 rfl rfl rfl ?_
      obtain ⟨q2, hq2, h⟩ := zz_bd h
      refine ev_cV (as := [.int l3]) (lsn := [.ref 7, .int l3, zzU, zzU]) (by omega) zo_110_45 zl_110_133 (by rw [zm_21]; rfl) (by rw [zm_21]; exact rfl) (by rw [zm_21]; decide) (by unfold zzIn; rw [zm_21]; rfl) (by rw [zm_21]; exact Nat.le_of_ble_eq_true rfl) (Nat.le_of_ble_eq_true rfl) (G_X0_noise (by omega) 7 l3 J q2 hq2) rfl ?_
      show zzEv _ _ _ _ [.int q2.1, .int l3, .ref l2] _ _
      obtain ⟨c3, h⟩ := zz_chk h
      obtain ⟨q4, hq4, h⟩ := zz_bd h
      refine ev_cV (as := [.int q2.1, .int l3]) (lsn := [.ref l2, .int l3, .int q2.1]) (by omega) zo_110_48 zl_110_275 (by rw [zm_73]; rfl) (by rw [zm_73]; exact c3) (by rw [zm_73]; decide) (by unfold zzIn; rw [zm_73]; rfl) (by rw [zm_73]; exact Nat.le_of_ble_eq_true rfl) (Nat.le_of_ble_eq_true rfl) (G_X4_write (by omega) l2 l3 q2.1 q2.2 q4 hq4) rfl ?_
      show zzEv _ _ _ _ [] _ _
      refine ev_iinc (v := 1) zo_110_51 rfl (by decide) (zz_set rfl (by decide) (Nat.le_of_ble_eq_true rfl)) rfl ?_
      show zzEv _ _ _ [.ref 0, lv1, .ref l2, .int (l3 + 1)] _ _ _
      refine ev_goto (t := 27) zo_110_54 rfl ?_
      exact ih l2 (l3 + 1) q4 r h (lv1) hlv1
    rw [if_neg c1] at h
    refine ev_cmp_t (t := 57) zo_110_35 rfl (zcm_ge c1) ?_
    refine ev_aload_n zo_110_57 rfl rfl rfl rfl ?_
    refine ev_getR zo_110_58 zf_110_28 (by decide) rfl rfl rfl rfl ?_
    refine ev_getI zo_110_61 zf_110_108 (by decide) (Or.inl rfl) rfl rfl ?_
    obtain rfl := Option.some.inj h
    exact ev_retI zo_110_64 zr_110
def F_X6_film (x1 : Int32) (J : zzJ) : Option (Int32 × zzJ) := (Option.bind (F_X6_sheetAt x1 J) fun q5 => (match q5.1 with | none => some ((-2 : Int32), q5.2) | some b7 => (if zKd b7 = 4 then (Option.bind (F_X4_become b7 (1 : Int32) (q5.2.2 7 4) q5.2) fun q9 => F_X6_film_27 4096 b7 (0 : Int32) q9) else none)))
set_option maxRecDepth 100000 in
set_option maxHeartbeats 2000000 in
theorem G_X6_film {d : Nat} (hd : 4 ≤ d) (x1 : Int32) (J : zzJ) (r : Int32 × zzJ) (h : F_X6_film x1 J = some r) : zzEv d 110 0 [.ref 0, .int x1, zzU, zzU] [] (zK J) (some (.int r.1), zK r.2) := by
  unfold F_X6_film at h
  refine ev_aload_n zo_110_0 rfl rfl rfl rfl ?_
  refine ev_iload_n zo_110_1 rfl rfl rfl ?_
  obtain ⟨q5, hq5, h⟩ := zz_bd h
  refine ev_cV (as := [.int x1]) (lsn := [.ref 0, .int x1]) (by omega) zo_110_2 zl_110_208 (by rw [zm_124]; rfl) (by rw [zm_124]; exact rfl) (by rw [zm_124]; decide) (by unfold zzIn; rw [zm_124]; rfl) (by rw [zm_124]; exact Nat.le_of_ble_eq_true rfl) (Nat.le_of_ble_eq_true rfl) (G_X6_sheetAt (by omega) x1 J q5 hq5) rfl ?_
  show zzEv _ _ _ _ [va_rf q5.1] _ _
  refine ev_astore_n zo_110_5 rfl (zz_is3 _) (zz_set rfl (by decide) (Nat.le_of_ble_eq_true rfl)) rfl ?_
  show zzEv _ _ _ [.ref 0, .int x1, va_rf q5.1, zzU] _ _ _
  refine ev_aload_n zo_110_6 rfl rfl (zz_is3 _) rfl ?_
  generalize q5.1 = o6 at h ⊢
  cases o6 with
  | none =>
    dsimp only at h
    refine ev_ifnn_n (t := 13) zo_110_7 rfl rfl ?_
    refine ev_bipush (x := (-2)) zo_110_10 (by decide) rfl ?_
    obtain rfl := Option.some.inj h
    exact ev_retI zo_110_12 zr_110
  | some b7 =>
    dsimp only at h
    refine ev_ifnn_r (t := 13) zo_110_7 rfl ?_
    refine ev_aload_n zo_110_13 rfl rfl rfl rfl ?_
    refine ev_iconst (x := 1) zo_110_14 (by decide) rfl ?_
    refine ev_aload_n zo_110_15 rfl rfl rfl rfl ?_
    refine ev_getR zo_110_16 zf_110_28 (by decide) rfl rfl rfl rfl ?_
    refine ev_getI zo_110_19 zf_110_108 (by decide) (Or.inl rfl) rfl rfl ?_
    obtain ⟨c8, h⟩ := zz_chk h
    obtain ⟨q9, hq9, h⟩ := zz_bd h
    refine ev_cV (as := [.int (q5.2.2 7 4), .int (1 : Int32)]) (lsn := [.ref b7, .int (1 : Int32), .int (q5.2.2 7 4)]) (by omega) zo_110_22 zl_110_272 (by rw [zm_68]; rfl) (by rw [zm_68]; exact c8) (by rw [zm_68]; decide) (by unfold zzIn; rw [zm_68]; rfl) (by rw [zm_68]; exact Nat.le_of_ble_eq_true rfl) (Nat.le_of_ble_eq_true rfl) (G_X4_become (by omega) b7 (1 : Int32) (q5.2.2 7 4) q5.2 q9 hq9) rfl ?_
    show zzEv _ _ _ _ [] _ _
    refine ev_iconst (x := 0) zo_110_25 (by decide) rfl ?_
    refine ev_istore_n zo_110_26 rfl (zz_set rfl (by decide) (Nat.le_of_ble_eq_true rfl)) rfl ?_
    show zzEv _ _ _ [.ref 0, .int x1, .ref b7, .int (0 : Int32)] _ _ _
    exact G_X6_film_27 hd 4096 b7 (0 : Int32) q9 r h (.int x1) rfl
/-! X6_drawn -/
def F_X6_drawn_43 : Nat → Int32 → Int32 → zzJ → Option (Int32 × zzJ)
  | 0, _, _, _ => none
  | n + 1, l2, l3, J => (if l3 < (J.2 14 4) then (Option.bind (F_X0_firstFreeFrom 14 (zRem (zUsh ((l2 * (1103515245 : Int32)) + (12345 : Int32)) (9 : Int32)) (24 : Int32)) J) fun q3 => (Option.bind (F_X0_move 14 l3 q3.1 q3.2) fun q4 => F_X6_drawn_43 n ((l2 * (1103515245 : Int32)) + (12345 : Int32)) (l3 + 1) q4)) else (Option.bind (F_X0_din 14 J) fun q2 => some (q2.1, q2.2)))
set_option maxRecDepth 100000 in
set_option maxHeartbeats 2000000 in
theorem G_X6_drawn_43 {d : Nat} (hd : 5 ≤ d) : ∀ (n : Nat) (l2 : Int32) (l3 : Int32) (J : zzJ) (r : Int32 × zzJ), F_X6_drawn_43 n l2 l3 J = some r → ∀ (lv1 : Value) (hlv1 : lv1.category = 1), zzEv d 111 43 [.ref 0, lv1, .int l2, .int l3] [] (zK J) (some (.int r.1), zK r.2) := by
  intro n
  induction n with
  | zero => intro l2 l3 J r h; simp [F_X6_drawn_43] at h
  | succ n ih =>
    intro l2 l3 J r h lv1 hlv1
    rw [F_X6_drawn_43] at h
    refine ev_iload_n zo_111_43 rfl rfl rfl ?_
    refine ev_aload_n zo_111_44 rfl rfl rfl rfl ?_
    refine ev_getR zo_111_45 zf_111_32 (by decide) rfl rfl rfl rfl ?_
    refine ev_getI zo_111_48 zf_111_108 (by decide) (Or.inl rfl) rfl rfl ?_
    by_cases c1 : l3 < (J.2 14 4)
    · rw [if_pos c1] at h
      refine ev_cmp_f (t := 92) zo_111_51 rfl (zcm_nge c1) rfl ?_
      refine ev_iload_n zo_111_54 rfl rfl rfl ?_
      refine ev_ldcw zo_111_55 zc_111_278 rfl ?_
      refine ev_imul zo_111_58 rfl ?_
      refine ev_sipush (x := 12345) zo_111_59 (by decide) rfl ?_
      refine ev_iadd zo_111_62 rfl ?_
      refine ev_istore_n zo_111_63 rfl (zz_set (zz_lg (j := 1) rfl hlv1) (by decide) (Nat.le_of_ble_eq_true rfl)) rfl ?_
      show zzEv _ _ _ [.ref 0, lv1, .int ((l2 * (1103515245 : Int32)) + (12345 : Int32)), .int l3] _ _ _
      refine ev_aload_n zo_111_64 rfl rfl rfl rfl ?_
      refine ev_getR zo_111_65 zf_111_32 (by decide) rfl rfl rfl rfl ?_
      refine ev_iload_n zo_111_68 rfl rfl rfl ?_
      refine ev_aload_n zo_111_69 rfl rfl rfl rfl ?_
      refine ev_getR zo_111_70 zf_111_32 (by decide) rfl rfl rfl rfl ?_
      refine ev_iload_n zo_111_73 rfl rfl rfl ?_
      refine ev_bipush (x := 9) zo_111_74 (by decide) rfl ?_
      refine ev_iushr zo_111_76 rfl ?_
      refine ev_bipush (x := 24) zo_111_77 (by decide) rfl ?_
      refine ev_irem zo_111_79 (by decide) rfl ?_
      obtain ⟨q3, hq3, h⟩ := zz_bd h
      refine ev_cV (as := [.int (zRem (zUsh ((l2 * (1103515245 : Int32)) + (12345 : Int32)) (9 : Int32)) (24 : Int32))]) (lsn := [.ref 14, .int (zRem (zUsh ((l2 * (1103515245 : Int32)) + (12345 : Int32)) (9 : Int32)) (24 : Int32)), zzU]) (by omega) zo_111_80 zl_111_279 (by rw [zm_13]; rfl) (by rw [zm_13]; exact rfl) (by rw [zm_13]; decide) (by unfold zzIn; rw [zm_13]; rfl) (by rw [zm_13]; exact Nat.le_of_ble_eq_true rfl) (Nat.le_of_ble_eq_true rfl) (G_X0_firstFreeFrom (by omega) 14 (zRem (zUsh ((l2 * (1103515245 : Int32)) + (12345 : Int32)) (9 : Int32)) (24 : Int32)) J q3 hq3) rfl ?_
      show zzEv _ _ _ _ [.int q3.1, .int l3, .ref 14] _ _
      obtain ⟨q4, hq4, h⟩ := zz_bd h
      refine ev_cV (as := [.int q3.1, .int l3]) (lsn := [.ref 14, .int l3, .int q3.1]) (by omega) zo_111_83 zl_111_120 (by rw [zm_11]; rfl) (by rw [zm_11]; exact rfl) (by rw [zm_11]; decide) (by unfold zzIn; rw [zm_11]; rfl) (by rw [zm_11]; exact Nat.le_of_ble_eq_true rfl) (Nat.le_of_ble_eq_true rfl) (G_X0_move (by omega) 14 l3 q3.1 q3.2 q4 hq4) rfl ?_
      show zzEv _ _ _ _ [] _ _
      refine ev_iinc (v := 1) zo_111_86 rfl (by decide) (zz_set rfl (by decide) (Nat.le_of_ble_eq_true rfl)) rfl ?_
      show zzEv _ _ _ [.ref 0, lv1, .int ((l2 * (1103515245 : Int32)) + (12345 : Int32)), .int (l3 + 1)] _ _ _
      refine ev_goto (t := 43) zo_111_89 rfl ?_
      exact ih ((l2 * (1103515245 : Int32)) + (12345 : Int32)) (l3 + 1) q4 r h (lv1) hlv1
    rw [if_neg c1] at h
    refine ev_cmp_t (t := 92) zo_111_51 rfl (zcm_ge c1) ?_
    refine ev_aload_n zo_111_92 rfl rfl rfl rfl ?_
    refine ev_getR zo_111_93 zf_111_32 (by decide) rfl rfl rfl rfl ?_
    obtain ⟨q2, hq2, h⟩ := zz_bd h
    refine ev_cV (as := []) (lsn := [.ref 14, zzU, zzU]) (by omega) zo_111_96 zl_111_150 (by rw [zm_24]; rfl) (by rw [zm_24]; exact rfl) (by rw [zm_24]; decide) (by unfold zzIn; rw [zm_24]; rfl) (by rw [zm_24]; exact Nat.le_of_ble_eq_true rfl) (Nat.le_of_ble_eq_true rfl) (G_X0_din (by omega) 14 J q2 hq2) rfl ?_
    show zzEv _ _ _ _ [.int q2.1] _ _
    obtain rfl := Option.some.inj h
    exact ev_retI zo_111_99 zr_111
def F_X6_drawn_13 : Nat → Int32 → Int32 → zzJ → Option (Int32 × zzJ)
  | 0, _, _, _ => none
  | n + 1, l1, l2, J => (if l2 < (J.2 14 4) then (Option.bind (F_X0_move 14 l2 (-1 : Int32) J) fun q6 => F_X6_drawn_13 n l1 (l2 + 1) q6) else F_X6_drawn_43 4096 l1 (0 : Int32) J)
set_option maxRecDepth 100000 in
set_option maxHeartbeats 2000000 in
theorem G_X6_drawn_13 {d : Nat} (hd : 5 ≤ d) : ∀ (n : Nat) (l1 : Int32) (l2 : Int32) (J : zzJ) (r : Int32 × zzJ), F_X6_drawn_13 n l1 l2 J = some r → zzEv d 111 13 [.ref 0, .int l1, .int l2, zzU] [] (zK J) (some (.int r.1), zK r.2) := by
  intro n
  induction n with
  | zero => intro l1 l2 J r h; simp [F_X6_drawn_13] at h
  | succ n ih =>
    intro l1 l2 J r h
    rw [F_X6_drawn_13] at h
    refine ev_iload_n zo_111_13 rfl rfl rfl ?_
    refine ev_aload_n zo_111_14 rfl rfl rfl rfl ?_
    refine ev_getR zo_111_15 zf_111_32 (by decide) rfl rfl rfl rfl ?_
    refine ev_getI zo_111_18 zf_111_108 (by decide) (Or.inl rfl) rfl rfl ?_
    by_cases c5 : l2 < (J.2 14 4)
    · rw [if_pos c5] at h
      refine ev_cmp_f (t := 39) zo_111_21 rfl (zcm_nge c5) rfl ?_
      refine ev_aload_n zo_111_24 rfl rfl rfl rfl ?_
      refine ev_getR zo_111_25 zf_111_32 (by decide) rfl rfl rfl rfl ?_
      refine ev_iload_n zo_111_28 rfl rfl rfl ?_
      refine ev_iconst (x := (-1)) zo_111_29 (by decide) rfl ?_
      obtain ⟨q6, hq6, h⟩ := zz_bd h
      refine ev_cV (as := [.int (-1 : Int32), .int l2]) (lsn := [.ref 14, .int l2, .int (-1 : Int32)]) (by omega) zo_111_30 zl_111_120 (by rw [zm_11]; rfl) (by rw [zm_11]; exact rfl) (by rw [zm_11]; decide) (by unfold zzIn; rw [zm_11]; rfl) (by rw [zm_11]; exact Nat.le_of_ble_eq_true rfl) (Nat.le_of_ble_eq_true rfl) (G_X0_move (by omega) 14 l2 (-1 : Int32) J q6 hq6) rfl ?_
      show zzEv _ _ _ _ [] _ _
      refine ev_iinc (v := 1) zo_111_33 rfl (by decide) (zz_set rfl (by decide) (Nat.le_of_ble_eq_true rfl)) rfl ?_
      show zzEv _ _ _ [.ref 0, .int l1, .int (l2 + 1), zzU] _ _ _
      refine ev_goto (t := 13) zo_111_36 rfl ?_
      exact ih l1 (l2 + 1) q6 r h
    rw [if_neg c5] at h
    refine ev_cmp_t (t := 39) zo_111_21 rfl (zcm_ge c5) ?_
    refine ev_iload_n zo_111_39 rfl rfl rfl ?_
    refine ev_istore_n zo_111_40 rfl (zz_set rfl (by decide) (Nat.le_of_ble_eq_true rfl)) rfl ?_
    show zzEv _ _ _ [.ref 0, .int l1, .int l1, zzU] _ _ _
    refine ev_iconst (x := 0) zo_111_41 (by decide) rfl ?_
    refine ev_istore_n zo_111_42 rfl (zz_set rfl (by decide) (Nat.le_of_ble_eq_true rfl)) rfl ?_
    show zzEv _ _ _ [.ref 0, .int l1, .int l1, .int (0 : Int32)] _ _ _
    exact G_X6_drawn_43 hd 4096 l1 (0 : Int32) J r h (.int l1) rfl
def F_X6_drawn (x1 : Int32) (J : zzJ) : Option (Int32 × zzJ) := (Option.bind (F_X0_take 14 7 J) fun q7 => F_X6_drawn_13 4096 x1 (0 : Int32) q7)
set_option maxRecDepth 100000 in
set_option maxHeartbeats 2000000 in
theorem G_X6_drawn {d : Nat} (hd : 5 ≤ d) (x1 : Int32) (J : zzJ) (r : Int32 × zzJ) (h : F_X6_drawn x1 J = some r) : zzEv d 111 0 [.ref 0, .int x1, zzU, zzU] [] (zK J) (some (.int r.1), zK r.2) := by
  unfold F_X6_drawn at h
  refine ev_aload_n zo_111_0 rfl rfl rfl rfl ?_
  refine ev_getR zo_111_1 zf_111_32 (by decide) rfl rfl rfl rfl ?_
  refine ev_aload_n zo_111_4 rfl rfl rfl rfl ?_
  refine ev_getR zo_111_5 zf_111_28 (by decide) rfl rfl rfl rfl ?_
  obtain ⟨q7, hq7, h⟩ := zz_bd h
  refine ev_cV (as := [.ref 7]) (lsn := [.ref 14, .ref 7]) (by omega) zo_111_8 zl_111_216 (by rw [zm_1]; rfl) (by rw [zm_1]; exact rfl) (by rw [zm_1]; decide) (by unfold zzIn; rw [zm_1]; rfl) (by rw [zm_1]; exact Nat.le_of_ble_eq_true rfl) (Nat.le_of_ble_eq_true rfl) (G_X0_take (by omega) 14 7 J q7 hq7) rfl ?_
  show zzEv _ _ _ _ [] _ _
  refine ev_iconst (x := 0) zo_111_11 (by decide) rfl ?_
  refine ev_istore_n zo_111_12 rfl (zz_set rfl (by decide) (Nat.le_of_ble_eq_true rfl)) rfl ?_
  show zzEv _ _ _ [.ref 0, .int x1, .int (0 : Int32), zzU] _ _ _
  exact G_X6_drawn_13 hd 4096 x1 (0 : Int32) q7 r h
/-! X6_lowered -/
def F_X6_lowered_2 : Nat → Int32 → Int32 → Int32 → Int32 → zzJ → Option (Int32 × zzJ)
  | 0, _, _, _, _, _ => none
  | n + 1, l0, l1, l2, l3, J => (if (1 : Int32) < l3 then (if ¬ l3 = 0 then (if (zRem l1 l3) = (0 : Int32) then (if ¬ l3 = 0 then (if (zRem l2 l3) = (0 : Int32) then (if ¬ l3 = 0 then some ((l0 / l3), J) else none) else F_X6_lowered_2 n l0 l1 l2 (l3 + (-1)) J) else none) else F_X6_lowered_2 n l0 l1 l2 (l3 + (-1)) J) else none) else some (l0, J))
set_option maxRecDepth 100000 in
set_option maxHeartbeats 2000000 in
theorem G_X6_lowered_2 {d : Nat} (hd : 0 ≤ d) : ∀ (n : Nat) (l0 : Int32) (l1 : Int32) (l2 : Int32) (l3 : Int32) (J : zzJ) (r : Int32 × zzJ), F_X6_lowered_2 n l0 l1 l2 l3 J = some r → zzEv d 113 2 [.int l0, .int l1, .int l2, .int l3] [] (zK J) (some (.int r.1), zK r.2) := by
  intro n
  induction n with
  | zero => intro l0 l1 l2 l3 J r h; simp [F_X6_lowered_2] at h
  | succ n ih =>
    intro l0 l1 l2 l3 J r h
    rw [F_X6_lowered_2] at h
    refine ev_iload_n zo_113_2 rfl rfl rfl ?_
    refine ev_iconst (x := 1) zo_113_3 (by decide) rfl ?_
    by_cases c1 : (1 : Int32) < l3
    · rw [if_pos c1] at h
      refine ev_cmp_f (t := 29) zo_113_4 rfl (zcm_nle c1) rfl ?_
      refine ev_iload_n zo_113_7 rfl rfl rfl ?_
      refine ev_iload_n zo_113_8 rfl rfl rfl ?_
      obtain ⟨c2, h⟩ := zz_chk h
      refine ev_irem zo_113_9 c2 rfl ?_
      by_cases c3 : (zRem l1 l3) = (0 : Int32)
      · rw [if_pos c3] at h
        refine ev_if_f (t := 23) zo_113_10 rfl (zcm_nne c3) rfl ?_
        refine ev_iload_n zo_113_13 rfl rfl rfl ?_
        refine ev_iload_n zo_113_14 rfl rfl rfl ?_
        obtain ⟨c4, h⟩ := zz_chk h
        refine ev_irem zo_113_15 c4 rfl ?_
        by_cases c5 : (zRem l2 l3) = (0 : Int32)
        · rw [if_pos c5] at h
          refine ev_if_f (t := 23) zo_113_16 rfl (zcm_nne c5) rfl ?_
          refine ev_iload_n zo_113_19 rfl rfl rfl ?_
          refine ev_iload_n zo_113_20 rfl rfl rfl ?_
          obtain ⟨c6, h⟩ := zz_chk h
          refine ev_idiv zo_113_21 c6 rfl ?_
          obtain rfl := Option.some.inj h
          exact ev_retI zo_113_22 zr_113
        rw [if_neg c5] at h
        refine ev_if_t (t := 23) zo_113_16 rfl (zcm_ne c5) ?_
        refine ev_iinc (v := (-1)) zo_113_23 rfl (by decide) (zz_set rfl (by decide) (Nat.le_of_ble_eq_true rfl)) rfl ?_
        show zzEv _ _ _ [.int l0, .int l1, .int l2, .int (l3 + (-1))] _ _ _
        refine ev_goto (t := 2) zo_113_26 rfl ?_
        exact ih l0 l1 l2 (l3 + (-1)) J r h
      rw [if_neg c3] at h
      refine ev_if_t (t := 23) zo_113_10 rfl (zcm_ne c3) ?_
      refine ev_iinc (v := (-1)) zo_113_23 rfl (by decide) (zz_set rfl (by decide) (Nat.le_of_ble_eq_true rfl)) rfl ?_
      show zzEv _ _ _ [.int l0, .int l1, .int l2, .int (l3 + (-1))] _ _ _
      refine ev_goto (t := 2) zo_113_26 rfl ?_
      exact ih l0 l1 l2 (l3 + (-1)) J r h
    rw [if_neg c1] at h
    refine ev_cmp_t (t := 29) zo_113_4 rfl (zcm_le c1) ?_
    refine ev_iload_n zo_113_29 rfl rfl rfl ?_
    obtain rfl := Option.some.inj h
    exact ev_retI zo_113_30 zr_113
def F_X6_lowered (x0 : Int32) (x1 : Int32) (x2 : Int32) (J : zzJ) : Option (Int32 × zzJ) := F_X6_lowered_2 4096 x0 x1 x2 x2 J
set_option maxRecDepth 100000 in
set_option maxHeartbeats 2000000 in
theorem G_X6_lowered {d : Nat} (hd : 0 ≤ d) (x0 : Int32) (x1 : Int32) (x2 : Int32) (J : zzJ) (r : Int32 × zzJ) (h : F_X6_lowered x0 x1 x2 J = some r) : zzEv d 113 0 [.int x0, .int x1, .int x2, zzU] [] (zK J) (some (.int r.1), zK r.2) := by
  unfold F_X6_lowered at h
  refine ev_iload_n zo_113_0 rfl rfl rfl ?_
  refine ev_istore_n zo_113_1 rfl (zz_set rfl (by decide) (Nat.le_of_ble_eq_true rfl)) rfl ?_
  show zzEv _ _ _ [.int x0, .int x1, .int x2, .int x2] _ _ _
  exact G_X6_lowered_2 hd 4096 x0 x1 x2 x2 J r h
/-! X6_chance -/
def F_X6_chance_37 : Nat → Int32 → Int32 → Int32 → Int32 → Int32 → Int32 → zzJ → Option (Int64 × zzJ)
  | 0, _, _, _, _, _, _, _ => none
  | n + 1, l1, l2, l3, l4, l5, l6, J => (if l6 < l2 then (Option.bind (F_X6_drawn (l1 + l6) J) fun q5 => (if l4 < q5.1 then F_X6_chance_37 n l1 l2 l3 l4 l5 (l6 + 1) q5.2 else F_X6_chance_37 n l1 l2 l3 l4 (l5 + 1) (l6 + 1) q5.2)) else (if l3 = (0 : Int32) then (Option.bind (F_X6_lowered l5 l5 l2 J) fun q4 => some (q4.1.toInt64, q4.2)) else (Option.bind (F_X6_lowered l2 l5 l2 J) fun q3 => some (q3.1.toInt64, q3.2))))
set_option maxRecDepth 100000 in
set_option maxHeartbeats 2000000 in
theorem G_X6_chance_37 {d : Nat} (hd : 6 ≤ d) : ∀ (n : Nat) (l1 : Int32) (l2 : Int32) (l3 : Int32) (l4 : Int32) (l5 : Int32) (l6 : Int32) (J : zzJ) (r : Int64 × zzJ), F_X6_chance_37 n l1 l2 l3 l4 l5 l6 J = some r → zzEv d 112 37 [.ref 0, .int l1, .int l2, .int l3, .int l4, .int l5, .int l6] [] (zK J) (some (.long r.1), zK r.2) := by
  intro n
  induction n with
  | zero => intro l1 l2 l3 l4 l5 l6 J r h; simp [F_X6_chance_37] at h
  | succ n ih =>
    intro l1 l2 l3 l4 l5 l6 J r h
    rw [F_X6_chance_37] at h
    refine ev_iload zo_112_37 rfl rfl ?_
    refine ev_iload_n zo_112_39 rfl rfl rfl ?_
    by_cases c1 : l6 < l2
    · rw [if_pos c1] at h
      refine ev_cmp_f (t := 65) zo_112_40 rfl (zcm_nge c1) rfl ?_
      refine ev_aload_n zo_112_43 rfl rfl rfl rfl ?_
      refine ev_iload_n zo_112_44 rfl rfl rfl ?_
      refine ev_iload zo_112_45 rfl rfl ?_
      refine ev_iadd zo_112_47 rfl ?_
      obtain ⟨q5, hq5, h⟩ := zz_bd h
      refine ev_cV (as := [.int (l1 + l6)]) (lsn := [.ref 0, .int (l1 + l6), zzU, zzU]) (by omega) zo_112_48 zl_112_284 (by rw [zm_111]; rfl) (by rw [zm_111]; exact rfl) (by rw [zm_111]; decide) (by unfold zzIn; rw [zm_111]; rfl) (by rw [zm_111]; exact Nat.le_of_ble_eq_true rfl) (Nat.le_of_ble_eq_true rfl) (G_X6_drawn (by omega) (l1 + l6) J q5 hq5) rfl ?_
      show zzEv _ _ _ _ [.int q5.1] _ _
      refine ev_iload zo_112_51 rfl rfl ?_
      by_cases c6 : l4 < q5.1
      · rw [if_pos c6] at h
        refine ev_cmp_t (t := 59) zo_112_53 rfl (zcm_gt c6) ?_
        refine ev_iinc (v := 1) zo_112_59 rfl (by decide) (zz_set rfl (by decide) (Nat.le_of_ble_eq_true rfl)) rfl ?_
        show zzEv _ _ _ [.ref 0, .int l1, .int l2, .int l3, .int l4, .int l5, .int (l6 + 1)] _ _ _
        refine ev_goto (t := 37) zo_112_62 rfl ?_
        exact ih l1 l2 l3 l4 l5 (l6 + 1) q5.2 r h
      rw [if_neg c6] at h
      refine ev_cmp_f (t := 59) zo_112_53 rfl (zcm_ngt c6) rfl ?_
      refine ev_iinc (v := 1) zo_112_56 rfl (by decide) (zz_set rfl (by decide) (Nat.le_of_ble_eq_true rfl)) rfl ?_
      show zzEv _ _ _ [.ref 0, .int l1, .int l2, .int l3, .int l4, .int (l5 + 1), .int l6] _ _ _
      refine ev_iinc (v := 1) zo_112_59 rfl (by decide) (zz_set rfl (by decide) (Nat.le_of_ble_eq_true rfl)) rfl ?_
      show zzEv _ _ _ [.ref 0, .int l1, .int l2, .int l3, .int l4, .int (l5 + 1), .int (l6 + 1)] _ _ _
      refine ev_goto (t := 37) zo_112_62 rfl ?_
      exact ih l1 l2 l3 l4 (l5 + 1) (l6 + 1) q5.2 r h
    rw [if_neg c1] at h
    refine ev_cmp_t (t := 65) zo_112_40 rfl (zcm_ge c1) ?_
    refine ev_iload_n zo_112_65 rfl rfl rfl ?_
    by_cases c2 : l3 = (0 : Int32)
    · rw [if_pos c2] at h
      refine ev_if_f (t := 81) zo_112_66 rfl (zcm_nne c2) rfl ?_
      refine ev_iload zo_112_69 rfl rfl ?_
      refine ev_iload zo_112_71 rfl rfl ?_
      refine ev_iload_n zo_112_73 rfl rfl rfl ?_
      obtain ⟨q4, hq4, h⟩ := zz_bd h
      refine ev_cS (as := [.int l2, .int l5, .int l5]) (lsn := [.int l5, .int l5, .int l2, zzU]) (by omega) zo_112_74 zl_112_287 (by decide) (by rw [zm_113]; rfl) (by unfold zzIn; rw [zm_113]; rfl) (by rw [zm_113]; exact Nat.le_of_ble_eq_true rfl) (Nat.le_of_ble_eq_true rfl) (G_X6_lowered (by omega) l5 l5 l2 J q4 hq4) rfl ?_
      show zzEv _ _ _ _ [.int q4.1] _ _
      refine ev_i2l zo_112_77 rfl ?_
      refine ev_goto (t := 89) zo_112_78 rfl ?_
      obtain rfl := Option.some.inj h
      exact ev_retL zo_112_89 zr_112
    rw [if_neg c2] at h
    refine ev_if_t (t := 81) zo_112_66 rfl (zcm_ne c2) ?_
    refine ev_iload_n zo_112_81 rfl rfl rfl ?_
    refine ev_iload zo_112_82 rfl rfl ?_
    refine ev_iload_n zo_112_84 rfl rfl rfl ?_
    obtain ⟨q3, hq3, h⟩ := zz_bd h
    refine ev_cS (as := [.int l2, .int l5, .int l2]) (lsn := [.int l2, .int l5, .int l2, zzU]) (by omega) zo_112_85 zl_112_287 (by decide) (by rw [zm_113]; rfl) (by unfold zzIn; rw [zm_113]; rfl) (by rw [zm_113]; exact Nat.le_of_ble_eq_true rfl) (Nat.le_of_ble_eq_true rfl) (G_X6_lowered (by omega) l2 l5 l2 J q3 hq3) rfl ?_
    show zzEv _ _ _ _ [.int q3.1] _ _
    refine ev_i2l zo_112_88 rfl ?_
    obtain rfl := Option.some.inj h
    exact ev_retL zo_112_89 zr_112
def F_X6_chance (x1 : Int32) (x2 : Int32) (x3 : Int32) (J : zzJ) : Option (Int64 × zzJ) := (if x2 < (1 : Int32) then some ((-4611686018427387904 : Int64), J) else (if (20 : Int32) < x2 then some ((-4611686018427387904 : Int64), J) else (Option.bind (F_X6_isZeroOrOne x3 J) fun q9 => (if q9.1 = (0 : Int32) then some ((-4611686018427387904 : Int64), q9.2) else (Option.bind (F_X0_din 7 q9.2) fun q11 => F_X6_chance_37 4096 x1 x2 x3 q11.1 (0 : Int32) (0 : Int32) q11.2)))))
set_option maxRecDepth 100000 in
set_option maxHeartbeats 2000000 in
theorem G_X6_chance {d : Nat} (hd : 6 ≤ d) (x1 : Int32) (x2 : Int32) (x3 : Int32) (J : zzJ) (r : Int64 × zzJ) (h : F_X6_chance x1 x2 x3 J = some r) : zzEv d 112 0 [.ref 0, .int x1, .int x2, .int x3, zzU, zzU, zzU] [] (zK J) (some (.long r.1), zK r.2) := by
  unfold F_X6_chance at h
  refine ev_iload_n zo_112_0 rfl rfl rfl ?_
  refine ev_iconst (x := 1) zo_112_1 (by decide) rfl ?_
  by_cases c7 : x2 < (1 : Int32)
  · rw [if_pos c7] at h
    refine ev_cmp_t (t := 18) zo_112_2 rfl (zcm_lt c7) ?_
    refine ev_ldc2 zo_112_18 zc_112_282 rfl ?_
    obtain rfl := Option.some.inj h
    exact ev_retL zo_112_21 zr_112
  rw [if_neg c7] at h
  refine ev_cmp_f (t := 18) zo_112_2 rfl (zcm_nlt c7) rfl ?_
  refine ev_iload_n zo_112_5 rfl rfl rfl ?_
  refine ev_bipush (x := 20) zo_112_6 (by decide) rfl ?_
  by_cases c8 : (20 : Int32) < x2
  · rw [if_pos c8] at h
    refine ev_cmp_t (t := 18) zo_112_8 rfl (zcm_gt c8) ?_
    refine ev_ldc2 zo_112_18 zc_112_282 rfl ?_
    obtain rfl := Option.some.inj h
    exact ev_retL zo_112_21 zr_112
  rw [if_neg c8] at h
  refine ev_cmp_f (t := 18) zo_112_8 rfl (zcm_ngt c8) rfl ?_
  refine ev_iload_n zo_112_11 rfl rfl rfl ?_
  obtain ⟨q9, hq9, h⟩ := zz_bd h
  refine ev_cS (as := [.int x3]) (lsn := [.int x3]) (by omega) zo_112_12 zl_112_183 (by decide) (by rw [zm_100]; rfl) (by unfold zzIn; rw [zm_100]; rfl) (by rw [zm_100]; exact Nat.le_of_ble_eq_true rfl) (Nat.le_of_ble_eq_true rfl) (G_X6_isZeroOrOne (by omega) x3 J q9 hq9) rfl ?_
  show zzEv _ _ _ _ [.int q9.1] _ _
  by_cases c10 : q9.1 = (0 : Int32)
  · rw [if_pos c10] at h
    refine ev_if_f (t := 22) zo_112_15 rfl (zcm_nne c10) rfl ?_
    refine ev_ldc2 zo_112_18 zc_112_282 rfl ?_
    obtain rfl := Option.some.inj h
    exact ev_retL zo_112_21 zr_112
  rw [if_neg c10] at h
  refine ev_if_t (t := 22) zo_112_15 rfl (zcm_ne c10) ?_
  refine ev_aload_n zo_112_22 rfl rfl rfl rfl ?_
  refine ev_getR zo_112_23 zf_112_28 (by decide) rfl rfl rfl rfl ?_
  obtain ⟨q11, hq11, h⟩ := zz_bd h
  refine ev_cV (as := []) (lsn := [.ref 7, zzU, zzU]) (by omega) zo_112_26 zl_112_150 (by rw [zm_24]; rfl) (by rw [zm_24]; exact rfl) (by rw [zm_24]; decide) (by unfold zzIn; rw [zm_24]; rfl) (by rw [zm_24]; exact Nat.le_of_ble_eq_true rfl) (Nat.le_of_ble_eq_true rfl) (G_X0_din (by omega) 7 q9.2 q11 hq11) rfl ?_
  show zzEv _ _ _ _ [.int q11.1] _ _
  refine ev_istore zo_112_29 (zz_set rfl (by decide) (Nat.le_of_ble_eq_true rfl)) rfl ?_
  show zzEv _ _ _ [.ref 0, .int x1, .int x2, .int x3, .int q11.1, zzU, zzU] _ _ _
  refine ev_iconst (x := 0) zo_112_31 (by decide) rfl ?_
  refine ev_istore zo_112_32 (zz_set rfl (by decide) (Nat.le_of_ble_eq_true rfl)) rfl ?_
  show zzEv _ _ _ [.ref 0, .int x1, .int x2, .int x3, .int q11.1, .int (0 : Int32), zzU] _ _ _
  refine ev_iconst (x := 0) zo_112_34 (by decide) rfl ?_
  refine ev_istore zo_112_35 (zz_set rfl (by decide) (Nat.le_of_ble_eq_true rfl)) rfl ?_
  show zzEv _ _ _ [.ref 0, .int x1, .int x2, .int x3, .int q11.1, .int (0 : Int32), .int (0 : Int32)] _ _ _
  exact G_X6_chance_37 hd 4096 x1 x2 x3 q11.1 (0 : Int32) (0 : Int32) q11.2 r h
/-! X6_image -/
def F_X6_image (J : zzJ) : Option (Int32 × zzJ) := (Option.bind (F_X0_take 21 7 J) fun q1 => some (((wI q1 0 5 (1 : Int32)).2 7 4), (wI q1 0 5 (1 : Int32))))
set_option maxRecDepth 100000 in
set_option maxHeartbeats 2000000 in
theorem G_X6_image {d : Nat} (hd : 2 ≤ d) (J : zzJ) (r : Int32 × zzJ) (h : F_X6_image J = some r) : zzEv d 114 0 [.ref 0] [] (zK J) (some (.int r.1), zK r.2) := by
  unfold F_X6_image at h
  refine ev_aload_n zo_114_0 rfl rfl rfl rfl ?_
  refine ev_getR zo_114_1 zf_114_35 (by decide) rfl rfl rfl rfl ?_
  refine ev_aload_n zo_114_4 rfl rfl rfl rfl ?_
  refine ev_getR zo_114_5 zf_114_28 (by decide) rfl rfl rfl rfl ?_
  obtain ⟨q1, hq1, h⟩ := zz_bd h
  refine ev_cV (as := [.ref 7]) (lsn := [.ref 21, .ref 7]) (by omega) zo_114_8 zl_114_216 (by rw [zm_1]; rfl) (by rw [zm_1]; exact rfl) (by rw [zm_1]; decide) (by unfold zzIn; rw [zm_1]; rfl) (by rw [zm_1]; exact Nat.le_of_ble_eq_true rfl) (Nat.le_of_ble_eq_true rfl) (G_X0_take (by omega) 21 7 J q1 hq1) rfl ?_
  show zzEv _ _ _ _ [] _ _
  refine ev_aload_n zo_114_11 rfl rfl rfl rfl ?_
  refine ev_iconst (x := 1) zo_114_12 (by decide) rfl ?_
  refine ev_putZ zo_114_13 zf_114_38 (by decide) rfl rfl rfl (Or.inr rfl) rfl ?_
  refine ev_aload_n zo_114_16 rfl rfl rfl rfl ?_
  refine ev_getR zo_114_17 zf_114_28 (by decide) rfl rfl rfl rfl ?_
  refine ev_getI zo_114_20 zf_114_108 (by decide) (Or.inl rfl) rfl rfl ?_
  obtain rfl := Option.some.inj h
  exact ev_retI zo_114_23 zr_114
/-! X6_back -/
def F_X6_back (J : zzJ) : Option (Int32 × zzJ) := (if (J.2 0 5) = (0 : Int32) then some ((-3 : Int32), J) else (Option.bind (F_X0_take 7 21 J) fun q2 => some ((q2.2 7 4), q2)))
set_option maxRecDepth 100000 in
set_option maxHeartbeats 2000000 in
theorem G_X6_back {d : Nat} (hd : 2 ≤ d) (J : zzJ) (r : Int32 × zzJ) (h : F_X6_back J = some r) : zzEv d 115 0 [.ref 0] [] (zK J) (some (.int r.1), zK r.2) := by
  unfold F_X6_back at h
  refine ev_aload_n zo_115_0 rfl rfl rfl rfl ?_
  refine ev_getI zo_115_1 zf_115_38 (by decide) (Or.inr rfl) rfl rfl ?_
  by_cases c1 : (J.2 0 5) = (0 : Int32)
  · rw [if_pos c1] at h
    refine ev_if_f (t := 10) zo_115_4 rfl (zcm_nne c1) rfl ?_
    refine ev_bipush (x := (-3)) zo_115_7 (by decide) rfl ?_
    obtain rfl := Option.some.inj h
    exact ev_retI zo_115_9 zr_115
  rw [if_neg c1] at h
  refine ev_if_t (t := 10) zo_115_4 rfl (zcm_ne c1) ?_
  refine ev_aload_n zo_115_10 rfl rfl rfl rfl ?_
  refine ev_getR zo_115_11 zf_115_28 (by decide) rfl rfl rfl rfl ?_
  refine ev_aload_n zo_115_14 rfl rfl rfl rfl ?_
  refine ev_getR zo_115_15 zf_115_35 (by decide) rfl rfl rfl rfl ?_
  obtain ⟨q2, hq2, h⟩ := zz_bd h
  refine ev_cV (as := [.ref 21]) (lsn := [.ref 7, .ref 21]) (by omega) zo_115_18 zl_115_216 (by rw [zm_1]; rfl) (by rw [zm_1]; exact rfl) (by rw [zm_1]; decide) (by unfold zzIn; rw [zm_1]; rfl) (by rw [zm_1]; exact Nat.le_of_ble_eq_true rfl) (Nat.le_of_ble_eq_true rfl) (G_X0_take (by omega) 7 21 J q2 hq2) rfl ?_
  show zzEv _ _ _ _ [] _ _
  refine ev_aload_n zo_115_21 rfl rfl rfl rfl ?_
  refine ev_getR zo_115_22 zf_115_28 (by decide) rfl rfl rfl rfl ?_
  refine ev_getI zo_115_25 zf_115_108 (by decide) (Or.inl rfl) rfl rfl ?_
  obtain rfl := Option.some.inj h
  exact ev_retI zo_115_28 zr_115
/-! X6_count -/
def F_X6_count (x1 : Int32) (J : zzJ) : Option (Int32 × zzJ) := (if x1 = 0 then some ((J.2 7 4), J) else (if x1 = 1 then (Option.bind (F_X0_sitting 7 J) fun q3 => some (q3.1, q3.2)) else (if x1 = 2 then some ((J.2 1 3), J) else (if x1 = 3 then some ((J.2 5 2), J) else (if x1 = 4 then some ((J.2 7 3), J) else some ((-2 : Int32), J))))))
set_option maxRecDepth 100000 in
set_option maxHeartbeats 2000000 in
theorem G_X6_count {d : Nat} (hd : 3 ≤ d) (x1 : Int32) (J : zzJ) (r : Int32 × zzJ) (h : F_X6_count x1 J = some r) : zzEv d 116 0 [.ref 0, .int x1] [] (zK J) (some (.int r.1), zK r.2) := by
  unfold F_X6_count at h
  refine ev_iload_n zo_116_0 rfl rfl rfl ?_
  by_cases s1 : x1 = 0
  · rw [if_pos s1] at h
    refine ev_tableIn (t := 36) zo_116_1 s1 rfl ?_
    refine ev_aload_n zo_116_36 rfl rfl rfl rfl ?_
    refine ev_getR zo_116_37 zf_116_28 (by decide) rfl rfl rfl rfl ?_
    refine ev_getI zo_116_40 zf_116_108 (by decide) (Or.inl rfl) rfl rfl ?_
    obtain rfl := Option.some.inj h
    exact ev_retI zo_116_43 zr_116
  rw [if_neg s1] at h
  by_cases s2 : x1 = 1
  · rw [if_pos s2] at h
    refine ev_tableIn (t := 44) zo_116_1 s2 rfl ?_
    refine ev_aload_n zo_116_44 rfl rfl rfl rfl ?_
    refine ev_getR zo_116_45 zf_116_28 (by decide) rfl rfl rfl rfl ?_
    obtain ⟨q3, hq3, h⟩ := zz_bd h
    refine ev_cV (as := []) (lsn := [.ref 7, zzU, zzU]) (by omega) zo_116_48 zl_116_290 (by rw [zm_26]; rfl) (by rw [zm_26]; exact rfl) (by rw [zm_26]; decide) (by unfold zzIn; rw [zm_26]; rfl) (by rw [zm_26]; exact Nat.le_of_ble_eq_true rfl) (Nat.le_of_ble_eq_true rfl) (G_X0_sitting (by omega) 7 J q3 hq3) rfl ?_
    show zzEv _ _ _ _ [.int q3.1] _ _
    obtain rfl := Option.some.inj h
    exact ev_retI zo_116_51 zr_116
  rw [if_neg s2] at h
  by_cases s4 : x1 = 2
  · rw [if_pos s4] at h
    refine ev_tableIn (t := 52) zo_116_1 s4 rfl ?_
    refine ev_aload_n zo_116_52 rfl rfl rfl rfl ?_
    refine ev_getR zo_116_53 zf_116_12 (by decide) rfl rfl rfl rfl ?_
    refine ev_getI zo_116_56 zf_116_146 (by decide) (Or.inl rfl) rfl rfl ?_
    obtain rfl := Option.some.inj h
    exact ev_retI zo_116_59 zr_116
  rw [if_neg s4] at h
  by_cases s5 : x1 = 3
  · rw [if_pos s5] at h
    refine ev_tableIn (t := 60) zo_116_1 s5 rfl ?_
    refine ev_aload_n zo_116_60 rfl rfl rfl rfl ?_
    refine ev_getR zo_116_61 zf_116_21 (by decide) rfl rfl rfl rfl ?_
    refine ev_getI zo_116_64 zf_116_145 (by decide) (Or.inl rfl) rfl rfl ?_
    obtain rfl := Option.some.inj h
    exact ev_retI zo_116_67 zr_116
  rw [if_neg s5] at h
  by_cases s6 : x1 = 4
  · rw [if_pos s6] at h
    refine ev_tableIn (t := 68) zo_116_1 s6 rfl ?_
    refine ev_aload_n zo_116_68 rfl rfl rfl rfl ?_
    refine ev_getR zo_116_69 zf_116_28 (by decide) rfl rfl rfl rfl ?_
    refine ev_getI zo_116_72 zf_116_147 (by decide) (Or.inl rfl) rfl rfl ?_
    obtain rfl := Option.some.inj h
    exact ev_retI zo_116_75 zr_116
  rw [if_neg s6] at h
  refine ev_tableOut (t := 76) zo_116_1 (sw_out 5 rfl fun k hk => ?_) rfl ?_
  · rcases (show k = 0 ∨ k = 1 ∨ k = 2 ∨ k = 3 ∨ k = 4 by omega) with rfl | rfl | rfl | rfl | rfl
    · exact sw_ne s1 (by decide)
    · exact sw_ne s2 (by decide)
    · exact sw_ne s4 (by decide)
    · exact sw_ne s5 (by decide)
    · exact sw_ne s6 (by decide)
  refine ev_bipush (x := (-2)) zo_116_76 (by decide) rfl ?_
  obtain rfl := Option.some.inj h
  exact ev_retI zo_116_78 zr_116
/-! X6_sheet -/
def F_X6_sheet (x1 : Int32) (x2 : Int32) (x3 : Int32) (J : zzJ) : Option (Int32 × zzJ) := (Option.bind (F_X6_sheetAt x1 J) fun q1 => (match q1.1 with | none => some ((-2 : Int32), q1.2) | some b3 => (if x2 < (-1 : Int32) then some ((-2 : Int32), q1.2) else (if (2 : Int32) < x2 then some ((-2 : Int32), q1.2) else (if x2 = (-1 : Int32) then (if zKd b3 = 4 then (Option.bind (F_X4_become b3 (-1 : Int32) (0 : Int32) q1.2) fun q12 => some ((1 : Int32), q12)) else none) else (if (40 : Int32) < x3 then some ((-2 : Int32), q1.2) else (if x3 < (0 : Int32) then some ((-14 : Int32), q1.2) else (if zKd b3 = 4 then (Option.bind (F_X4_become b3 x2 x3 q1.2) fun q10 => some ((1 : Int32), q10)) else none))))))))
set_option maxRecDepth 100000 in
set_option maxHeartbeats 2000000 in
theorem G_X6_sheet {d : Nat} (hd : 2 ≤ d) (x1 : Int32) (x2 : Int32) (x3 : Int32) (J : zzJ) (r : Int32 × zzJ) (h : F_X6_sheet x1 x2 x3 J = some r) : zzEv d 117 0 [.ref 0, .int x1, .int x2, .int x3, zzU] [] (zK J) (some (.int r.1), zK r.2) := by
  unfold F_X6_sheet at h
  refine ev_aload_n zo_117_0 rfl rfl rfl rfl ?_
  refine ev_iload_n zo_117_1 rfl rfl rfl ?_
  obtain ⟨q1, hq1, h⟩ := zz_bd h
  refine ev_cV (as := [.int x1]) (lsn := [.ref 0, .int x1]) (by omega) zo_117_2 zl_117_208 (by rw [zm_124]; rfl) (by rw [zm_124]; exact rfl) (by rw [zm_124]; decide) (by unfold zzIn; rw [zm_124]; rfl) (by rw [zm_124]; exact Nat.le_of_ble_eq_true rfl) (Nat.le_of_ble_eq_true rfl) (G_X6_sheetAt (by omega) x1 J q1 hq1) rfl ?_
  show zzEv _ _ _ _ [va_rf q1.1] _ _
  refine ev_astore zo_117_5 (zz_is3 _) (zz_set rfl (by decide) (Nat.le_of_ble_eq_true rfl)) rfl ?_
  show zzEv _ _ _ [.ref 0, .int x1, .int x2, .int x3, va_rf q1.1] _ _ _
  refine ev_aload zo_117_7 rfl (zz_is3 _) rfl ?_
  generalize q1.1 = o2 at h ⊢
  cases o2 with
  | none =>
    dsimp only at h
    refine ev_ifnull_n (t := 22) zo_117_9 rfl ?_
    refine ev_bipush (x := (-2)) zo_117_22 (by decide) rfl ?_
    obtain rfl := Option.some.inj h
    exact ev_retI zo_117_24 zr_117
  | some b3 =>
    dsimp only at h
    refine ev_ifnull_r (t := 22) zo_117_9 rfl rfl ?_
    refine ev_iload_n zo_117_12 rfl rfl rfl ?_
    refine ev_iconst (x := (-1)) zo_117_13 (by decide) rfl ?_
    by_cases c4 : x2 < (-1 : Int32)
    · rw [if_pos c4] at h
      refine ev_cmp_t (t := 22) zo_117_14 rfl (zcm_lt c4) ?_
      refine ev_bipush (x := (-2)) zo_117_22 (by decide) rfl ?_
      obtain rfl := Option.some.inj h
      exact ev_retI zo_117_24 zr_117
    rw [if_neg c4] at h
    refine ev_cmp_f (t := 22) zo_117_14 rfl (zcm_nlt c4) rfl ?_
    refine ev_iload_n zo_117_17 rfl rfl rfl ?_
    refine ev_iconst (x := 2) zo_117_18 (by decide) rfl ?_
    by_cases c5 : (2 : Int32) < x2
    · rw [if_pos c5] at h
      refine ev_cmp_f (t := 25) zo_117_19 rfl (zcm_nle c5) rfl ?_
      refine ev_bipush (x := (-2)) zo_117_22 (by decide) rfl ?_
      obtain rfl := Option.some.inj h
      exact ev_retI zo_117_24 zr_117
    rw [if_neg c5] at h
    refine ev_cmp_t (t := 25) zo_117_19 rfl (zcm_le c5) ?_
    refine ev_iload_n zo_117_25 rfl rfl rfl ?_
    refine ev_iconst (x := (-1)) zo_117_26 (by decide) rfl ?_
    by_cases c6 : x2 = (-1 : Int32)
    · rw [if_pos c6] at h
      refine ev_cmp_f (t := 39) zo_117_27 rfl (zcm_nne c6) rfl ?_
      refine ev_aload zo_117_30 rfl rfl rfl ?_
      refine ev_iconst (x := (-1)) zo_117_32 (by decide) rfl ?_
      refine ev_iconst (x := 0) zo_117_33 (by decide) rfl ?_
      obtain ⟨c11, h⟩ := zz_chk h
      obtain ⟨q12, hq12, h⟩ := zz_bd h
      refine ev_cV (as := [.int (0 : Int32), .int (-1 : Int32)]) (lsn := [.ref b3, .int (-1 : Int32), .int (0 : Int32)]) (by omega) zo_117_34 zl_117_272 (by rw [zm_68]; rfl) (by rw [zm_68]; exact c11) (by rw [zm_68]; decide) (by unfold zzIn; rw [zm_68]; rfl) (by rw [zm_68]; exact Nat.le_of_ble_eq_true rfl) (Nat.le_of_ble_eq_true rfl) (G_X4_become (by omega) b3 (-1 : Int32) (0 : Int32) q1.2 q12 hq12) rfl ?_
      show zzEv _ _ _ _ [] _ _
      refine ev_iconst (x := 1) zo_117_37 (by decide) rfl ?_
      obtain rfl := Option.some.inj h
      exact ev_retI zo_117_38 zr_117
    rw [if_neg c6] at h
    refine ev_cmp_t (t := 39) zo_117_27 rfl (zcm_ne c6) ?_
    refine ev_iload_n zo_117_39 rfl rfl rfl ?_
    refine ev_bipush (x := 40) zo_117_40 (by decide) rfl ?_
    by_cases c7 : (40 : Int32) < x3
    · rw [if_pos c7] at h
      refine ev_cmp_f (t := 48) zo_117_42 rfl (zcm_nle c7) rfl ?_
      refine ev_bipush (x := (-2)) zo_117_45 (by decide) rfl ?_
      obtain rfl := Option.some.inj h
      exact ev_retI zo_117_47 zr_117
    rw [if_neg c7] at h
    refine ev_cmp_t (t := 48) zo_117_42 rfl (zcm_le c7) ?_
    refine ev_iload_n zo_117_48 rfl rfl rfl ?_
    by_cases c8 : x3 < (0 : Int32)
    · rw [if_pos c8] at h
      refine ev_if_f (t := 55) zo_117_49 rfl (zcm_nge c8) rfl ?_
      refine ev_bipush (x := (-14)) zo_117_52 (by decide) rfl ?_
      obtain rfl := Option.some.inj h
      exact ev_retI zo_117_54 zr_117
    rw [if_neg c8] at h
    refine ev_if_t (t := 55) zo_117_49 rfl (zcm_ge c8) ?_
    refine ev_aload zo_117_55 rfl rfl rfl ?_
    refine ev_iload_n zo_117_57 rfl rfl rfl ?_
    refine ev_iload_n zo_117_58 rfl rfl rfl ?_
    obtain ⟨c9, h⟩ := zz_chk h
    obtain ⟨q10, hq10, h⟩ := zz_bd h
    refine ev_cV (as := [.int x3, .int x2]) (lsn := [.ref b3, .int x2, .int x3]) (by omega) zo_117_59 zl_117_272 (by rw [zm_68]; rfl) (by rw [zm_68]; exact c9) (by rw [zm_68]; decide) (by unfold zzIn; rw [zm_68]; rfl) (by rw [zm_68]; exact Nat.le_of_ble_eq_true rfl) (Nat.le_of_ble_eq_true rfl) (G_X4_become (by omega) b3 x2 x3 q1.2 q10 hq10) rfl ?_
    show zzEv _ _ _ _ [] _ _
    refine ev_iconst (x := 1) zo_117_62 (by decide) rfl ?_
    obtain rfl := Option.some.inj h
    exact ev_retI zo_117_63 zr_117
/-! X6_cell -/
def F_X6_cell (x1 : Int32) (x2 : Int32) (x3 : Int32) (J : zzJ) : Option (Int32 × zzJ) := (Option.bind (F_X6_sheetAt x1 J) fun q1 => (match q1.1 with | none => some ((-2 : Int32), q1.2) | some b3 => (if zKd b3 = 4 then (Option.bind (F_X4_isMissing b3 q1.2) fun q5 => (if q5.1 = (0 : Int32) then (Option.bind (F_X4_has b3 x2 q5.2) fun q7 => (if q7.1 = (0 : Int32) then some ((-12 : Int32), q7.2) else (Option.bind (F_X4_write b3 x2 x3 q7.2) fun q9 => some ((1 : Int32), q9)))) else some ((-11 : Int32), q5.2))) else none)))
set_option maxRecDepth 100000 in
set_option maxHeartbeats 2000000 in
theorem G_X6_cell {d : Nat} (hd : 2 ≤ d) (x1 : Int32) (x2 : Int32) (x3 : Int32) (J : zzJ) (r : Int32 × zzJ) (h : F_X6_cell x1 x2 x3 J = some r) : zzEv d 118 0 [.ref 0, .int x1, .int x2, .int x3, zzU] [] (zK J) (some (.int r.1), zK r.2) := by
  unfold F_X6_cell at h
  refine ev_aload_n zo_118_0 rfl rfl rfl rfl ?_
  refine ev_iload_n zo_118_1 rfl rfl rfl ?_
  obtain ⟨q1, hq1, h⟩ := zz_bd h
  refine ev_cV (as := [.int x1]) (lsn := [.ref 0, .int x1]) (by omega) zo_118_2 zl_118_208 (by rw [zm_124]; rfl) (by rw [zm_124]; exact rfl) (by rw [zm_124]; decide) (by unfold zzIn; rw [zm_124]; rfl) (by rw [zm_124]; exact Nat.le_of_ble_eq_true rfl) (Nat.le_of_ble_eq_true rfl) (G_X6_sheetAt (by omega) x1 J q1 hq1) rfl ?_
  show zzEv _ _ _ _ [va_rf q1.1] _ _
  refine ev_astore zo_118_5 (zz_is3 _) (zz_set rfl (by decide) (Nat.le_of_ble_eq_true rfl)) rfl ?_
  show zzEv _ _ _ [.ref 0, .int x1, .int x2, .int x3, va_rf q1.1] _ _ _
  refine ev_aload zo_118_7 rfl (zz_is3 _) rfl ?_
  generalize q1.1 = o2 at h ⊢
  cases o2 with
  | none =>
    dsimp only at h
    refine ev_ifnn_n (t := 15) zo_118_9 rfl rfl ?_
    refine ev_bipush (x := (-2)) zo_118_12 (by decide) rfl ?_
    obtain rfl := Option.some.inj h
    exact ev_retI zo_118_14 zr_118
  | some b3 =>
    dsimp only at h
    refine ev_ifnn_r (t := 15) zo_118_9 rfl ?_
    refine ev_aload zo_118_15 rfl rfl rfl ?_
    obtain ⟨c4, h⟩ := zz_chk h
    obtain ⟨q5, hq5, h⟩ := zz_bd h
    refine ev_cV (as := []) (lsn := [.ref b3]) (by omega) zo_118_17 zl_118_239 (by rw [zm_69]; rfl) (by rw [zm_69]; exact c4) (by rw [zm_69]; decide) (by unfold zzIn; rw [zm_69]; rfl) (by rw [zm_69]; exact Nat.le_of_ble_eq_true rfl) (Nat.le_of_ble_eq_true rfl) (G_X4_isMissing (by omega) b3 q1.2 q5 hq5) rfl ?_
    show zzEv _ _ _ _ [.int q5.1] _ _
    by_cases c6 : q5.1 = (0 : Int32)
    · rw [if_pos c6] at h
      refine ev_if_t (t := 26) zo_118_20 rfl (zcm_eq c6) ?_
      refine ev_aload zo_118_26 rfl rfl rfl ?_
      refine ev_iload_n zo_118_28 rfl rfl rfl ?_
      obtain ⟨q7, hq7, h⟩ := zz_bd h
      refine ev_cV (as := [.int x2]) (lsn := [.ref b3, .int x2]) (by omega) zo_118_29 zl_118_293 (by rw [zm_70]; rfl) (by rw [zm_70]; exact c4) (by rw [zm_70]; decide) (by unfold zzIn; rw [zm_70]; rfl) (by rw [zm_70]; exact Nat.le_of_ble_eq_true rfl) (Nat.le_of_ble_eq_true rfl) (G_X4_has (by omega) b3 x2 q5.2 q7 hq7) rfl ?_
      show zzEv _ _ _ _ [.int q7.1] _ _
      by_cases c8 : q7.1 = (0 : Int32)
      · rw [if_pos c8] at h
        refine ev_if_f (t := 38) zo_118_32 rfl (zcm_nne c8) rfl ?_
        refine ev_bipush (x := (-12)) zo_118_35 (by decide) rfl ?_
        obtain rfl := Option.some.inj h
        exact ev_retI zo_118_37 zr_118
      rw [if_neg c8] at h
      refine ev_if_t (t := 38) zo_118_32 rfl (zcm_ne c8) ?_
      refine ev_aload zo_118_38 rfl rfl rfl ?_
      refine ev_iload_n zo_118_40 rfl rfl rfl ?_
      refine ev_iload_n zo_118_41 rfl rfl rfl ?_
      obtain ⟨q9, hq9, h⟩ := zz_bd h
      refine ev_cV (as := [.int x3, .int x2]) (lsn := [.ref b3, .int x2, .int x3]) (by omega) zo_118_42 zl_118_275 (by rw [zm_73]; rfl) (by rw [zm_73]; exact c4) (by rw [zm_73]; decide) (by unfold zzIn; rw [zm_73]; rfl) (by rw [zm_73]; exact Nat.le_of_ble_eq_true rfl) (Nat.le_of_ble_eq_true rfl) (G_X4_write (by omega) b3 x2 x3 q7.2 q9 hq9) rfl ?_
      show zzEv _ _ _ _ [] _ _
      refine ev_iconst (x := 1) zo_118_45 (by decide) rfl ?_
      obtain rfl := Option.some.inj h
      exact ev_retI zo_118_46 zr_118
    rw [if_neg c6] at h
    refine ev_if_f (t := 26) zo_118_20 rfl (zcm_neq c6) rfl ?_
    refine ev_bipush (x := (-11)) zo_118_23 (by decide) rfl ?_
    obtain rfl := Option.some.inj h
    exact ev_retI zo_118_25 zr_118
/-! X6_copy -/
def F_X6_copy (x1 : Int32) (x2 : Int32) (x3 : Int32) (x4 : Int32) (x5 : Int32) (J : zzJ) : Option (Int32 × zzJ) := (Option.bind (F_X6_sheetAt x1 J) fun q1 => (Option.bind (F_X6_sheetAt x3 q1.2) fun q2 => (match q1.1 with | none => some ((-2 : Int32), q2.2) | some b4 => (match q2.1 with | none => some ((-2 : Int32), q2.2) | some b6 => (if zKd b4 = 4 then (Option.bind (F_X4_isMissing b4 q2.2) fun q8 => (if q8.1 = (0 : Int32) then (if zKd b6 = 4 then (Option.bind (F_X4_isMissing b6 q8.2) fun q11 => (if q11.1 = (0 : Int32) then (if (q11.2.2 b4 0) = (q11.2.2 b6 0) then (Option.bind (F_X4_hasRun b4 x2 x5 q11.2) fun q14 => (if q14.1 = (0 : Int32) then some ((-12 : Int32), q14.2) else (Option.bind (F_X4_hasRun b6 x4 x5 q14.2) fun q16 => (if q16.1 = (0 : Int32) then some ((-12 : Int32), q16.2) else (Option.bind (zMR b4 2) fun b18 => (Option.bind (zMR b6 2) fun b19 => (if zKd b19 = 8 then (if zKd b18 = 8 then (if ¬ x2 < 0 then (if ¬ x4 < 0 then (if ¬ x5 < 0 then (if x2.toNatClampNeg + x5.toNatClampNeg ≤ (zSz b18) then (if x4.toNatClampNeg + x5.toNatClampNeg ≤ (zSz b19) then some (x5, (wC q16.2 b19 (va_cpy (q16.2.2 b18) (q16.2.2 b19) x2.toNatClampNeg x4.toNatClampNeg x5.toNatClampNeg))) else none) else none) else none) else none) else none) else none) else none))))))) else some ((-13 : Int32), q11.2)) else some ((-11 : Int32), q11.2))) else none) else some ((-11 : Int32), q8.2))) else none)))))
set_option maxRecDepth 100000 in
set_option maxHeartbeats 2000000 in
theorem G_X6_copy {d : Nat} (hd : 1 ≤ d) (x1 : Int32) (x2 : Int32) (x3 : Int32) (x4 : Int32) (x5 : Int32) (J : zzJ) (r : Int32 × zzJ) (h : F_X6_copy x1 x2 x3 x4 x5 J = some r) : zzEv d 119 0 [.ref 0, .int x1, .int x2, .int x3, .int x4, .int x5, zzU, zzU] [] (zK J) (some (.int r.1), zK r.2) := by
  unfold F_X6_copy at h
  refine ev_aload_n zo_119_0 rfl rfl rfl rfl ?_
  refine ev_iload_n zo_119_1 rfl rfl rfl ?_
  obtain ⟨q1, hq1, h⟩ := zz_bd h
  refine ev_cV (as := [.int x1]) (lsn := [.ref 0, .int x1]) (by omega) zo_119_2 zl_119_208 (by rw [zm_124]; rfl) (by rw [zm_124]; exact rfl) (by rw [zm_124]; decide) (by unfold zzIn; rw [zm_124]; rfl) (by rw [zm_124]; exact Nat.le_of_ble_eq_true rfl) (Nat.le_of_ble_eq_true rfl) (G_X6_sheetAt (by omega) x1 J q1 hq1) rfl ?_
  show zzEv _ _ _ _ [va_rf q1.1] _ _
  refine ev_astore zo_119_5 (zz_is3 _) (zz_set rfl (by decide) (Nat.le_of_ble_eq_true rfl)) rfl ?_
  show zzEv _ _ _ [.ref 0, .int x1, .int x2, .int x3, .int x4, .int x5, va_rf q1.1, zzU] _ _ _
  refine ev_aload_n zo_119_7 rfl rfl rfl rfl ?_
  refine ev_iload_n zo_119_8 rfl rfl rfl ?_
  obtain ⟨q2, hq2, h⟩ := zz_bd h
  refine ev_cV (as := [.int x3]) (lsn := [.ref 0, .int x3]) (by omega) zo_119_9 zl_119_208 (by rw [zm_124]; rfl) (by rw [zm_124]; exact rfl) (by rw [zm_124]; decide) (by unfold zzIn; rw [zm_124]; rfl) (by rw [zm_124]; exact Nat.le_of_ble_eq_true rfl) (Nat.le_of_ble_eq_true rfl) (G_X6_sheetAt (by omega) x3 q1.2 q2 hq2) rfl ?_
  show zzEv _ _ _ _ [va_rf q2.1] _ _
  refine ev_astore zo_119_12 (zz_is3 _) (zz_set (zz_lg (j := 6) rfl (zz_cat_rf _)) (by decide) (Nat.le_of_ble_eq_true rfl)) rfl ?_
  show zzEv _ _ _ [.ref 0, .int x1, .int x2, .int x3, .int x4, .int x5, va_rf q1.1, va_rf q2.1] _ _ _
  refine ev_aload zo_119_14 rfl (zz_is3 _) rfl ?_
  generalize q1.1 = o3 at h ⊢
  cases o3 with
  | none =>
    dsimp only at h
    refine ev_ifnull_n (t := 24) zo_119_16 rfl ?_
    refine ev_bipush (x := (-2)) zo_119_24 (by decide) rfl ?_
    obtain rfl := Option.some.inj h
    exact ev_retI zo_119_26 zr_119
  | some b4 =>
    dsimp only at h
    refine ev_ifnull_r (t := 24) zo_119_16 rfl rfl ?_
    refine ev_aload zo_119_19 rfl (zz_is3 _) rfl ?_
    generalize q2.1 = o5 at h ⊢
    cases o5 with
    | none =>
      dsimp only at h
      refine ev_ifnn_n (t := 27) zo_119_21 rfl rfl ?_
      refine ev_bipush (x := (-2)) zo_119_24 (by decide) rfl ?_
      obtain rfl := Option.some.inj h
      exact ev_retI zo_119_26 zr_119
    | some b6 =>
      dsimp only at h
      refine ev_ifnn_r (t := 27) zo_119_21 rfl ?_
      refine ev_aload zo_119_27 rfl rfl rfl ?_
      obtain ⟨c7, h⟩ := zz_chk h
      obtain ⟨q8, hq8, h⟩ := zz_bd h
      refine ev_cV (as := []) (lsn := [.ref b4]) (by omega) zo_119_29 zl_119_239 (by rw [zm_69]; rfl) (by rw [zm_69]; exact c7) (by rw [zm_69]; decide) (by unfold zzIn; rw [zm_69]; rfl) (by rw [zm_69]; exact Nat.le_of_ble_eq_true rfl) (Nat.le_of_ble_eq_true rfl) (G_X4_isMissing (by omega) b4 q2.2 q8 hq8) rfl ?_
      show zzEv _ _ _ _ [.int q8.1] _ _
      by_cases c9 : q8.1 = (0 : Int32)
      · rw [if_pos c9] at h
        refine ev_if_f (t := 43) zo_119_32 rfl (zcm_nne c9) rfl ?_
        refine ev_aload zo_119_35 rfl rfl rfl ?_
        obtain ⟨c10, h⟩ := zz_chk h
        obtain ⟨q11, hq11, h⟩ := zz_bd h
        refine ev_cV (as := []) (lsn := [.ref b6]) (by omega) zo_119_37 zl_119_239 (by rw [zm_69]; rfl) (by rw [zm_69]; exact c10) (by rw [zm_69]; decide) (by unfold zzIn; rw [zm_69]; rfl) (by rw [zm_69]; exact Nat.le_of_ble_eq_true rfl) (Nat.le_of_ble_eq_true rfl) (G_X4_isMissing (by omega) b6 q8.2 q11 hq11) rfl ?_
        show zzEv _ _ _ _ [.int q11.1] _ _
        by_cases c12 : q11.1 = (0 : Int32)
        · rw [if_pos c12] at h
          refine ev_if_t (t := 46) zo_119_40 rfl (zcm_eq c12) ?_
          refine ev_aload zo_119_46 rfl rfl rfl ?_
          refine ev_getI zo_119_48 zf_119_294 (by decide) (Or.inl rfl) c7 rfl ?_
          refine ev_aload zo_119_51 rfl rfl rfl ?_
          refine ev_getI zo_119_53 zf_119_294 (by decide) (Or.inl rfl) c10 rfl ?_
          by_cases c13 : (q11.2.2 b4 0) = (q11.2.2 b6 0)
          · rw [if_pos c13] at h
            refine ev_cmp_t (t := 62) zo_119_56 rfl (zcm_eq c13) ?_
            refine ev_aload zo_119_62 rfl rfl rfl ?_
            refine ev_iload_n zo_119_64 rfl rfl rfl ?_
            refine ev_iload zo_119_65 rfl rfl ?_
            obtain ⟨q14, hq14, h⟩ := zz_bd h
            refine ev_cV (as := [.int x5, .int x2]) (lsn := [.ref b4, .int x2, .int x5]) (by omega) zo_119_67 zl_119_297 (by rw [zm_71]; rfl) (by rw [zm_71]; exact c7) (by rw [zm_71]; decide) (by unfold zzIn; rw [zm_71]; rfl) (by rw [zm_71]; exact Nat.le_of_ble_eq_true rfl) (Nat.le_of_ble_eq_true rfl) (G_X4_hasRun (by omega) b4 x2 x5 q11.2 q14 hq14) rfl ?_
            show zzEv _ _ _ _ [.int q14.1] _ _
            by_cases c15 : q14.1 = (0 : Int32)
            · rw [if_pos c15] at h
              refine ev_if_t (t := 85) zo_119_70 rfl (zcm_eq c15) ?_
              refine ev_bipush (x := (-12)) zo_119_85 (by decide) rfl ?_
              obtain rfl := Option.some.inj h
              exact ev_retI zo_119_87 zr_119
            rw [if_neg c15] at h
            refine ev_if_f (t := 85) zo_119_70 rfl (zcm_neq c15) rfl ?_
            refine ev_aload zo_119_73 rfl rfl rfl ?_
            refine ev_iload zo_119_75 rfl rfl ?_
            refine ev_iload zo_119_77 rfl rfl ?_
            obtain ⟨q16, hq16, h⟩ := zz_bd h
            refine ev_cV (as := [.int x5, .int x4]) (lsn := [.ref b6, .int x4, .int x5]) (by omega) zo_119_79 zl_119_297 (by rw [zm_71]; rfl) (by rw [zm_71]; exact c10) (by rw [zm_71]; decide) (by unfold zzIn; rw [zm_71]; rfl) (by rw [zm_71]; exact Nat.le_of_ble_eq_true rfl) (Nat.le_of_ble_eq_true rfl) (G_X4_hasRun (by omega) b6 x4 x5 q14.2 q16 hq16) rfl ?_
            show zzEv _ _ _ _ [.int q16.1] _ _
            by_cases c17 : q16.1 = (0 : Int32)
            · rw [if_pos c17] at h
              refine ev_if_f (t := 88) zo_119_82 rfl (zcm_nne c17) rfl ?_
              refine ev_bipush (x := (-12)) zo_119_85 (by decide) rfl ?_
              obtain rfl := Option.some.inj h
              exact ev_retI zo_119_87 zr_119
            rw [if_neg c17] at h
            refine ev_if_t (t := 88) zo_119_82 rfl (zcm_ne c17) ?_
            refine ev_aload zo_119_88 rfl rfl rfl ?_
            obtain ⟨b18, eb18, h⟩ := zz_bd h
            refine ev_getR zo_119_90 zf_119_300 (by decide) rfl c7 eb18 rfl ?_
            refine ev_iload_n zo_119_93 rfl rfl rfl ?_
            refine ev_aload zo_119_94 rfl rfl rfl ?_
            obtain ⟨b19, eb19, h⟩ := zz_bd h
            refine ev_getR zo_119_96 zf_119_300 (by decide) rfl c10 eb19 rfl ?_
            refine ev_iload zo_119_99 rfl rfl ?_
            refine ev_iload zo_119_101 rfl rfl ?_
            obtain ⟨c20, h⟩ := zz_chk h
            obtain ⟨c21, h⟩ := zz_chk h
            obtain ⟨c22, h⟩ := zz_chk h
            obtain ⟨c23, h⟩ := zz_chk h
            obtain ⟨c24, h⟩ := zz_chk h
            obtain ⟨c25, h⟩ := zz_chk h
            obtain ⟨c26, h⟩ := zz_chk h
            refine ev_copy zo_119_103 zl_119_303 (Nat.le_of_ble_eq_true rfl) c20 c21 c22 c23 c24 c25 c26 rfl ?_
            refine ev_iload zo_119_106 rfl rfl ?_
            obtain rfl := Option.some.inj h
            exact ev_retI zo_119_108 zr_119
          rw [if_neg c13] at h
          refine ev_cmp_f (t := 62) zo_119_56 rfl (zcm_neq c13) rfl ?_
          refine ev_bipush (x := (-13)) zo_119_59 (by decide) rfl ?_
          obtain rfl := Option.some.inj h
          exact ev_retI zo_119_61 zr_119
        rw [if_neg c12] at h
        refine ev_if_f (t := 46) zo_119_40 rfl (zcm_neq c12) rfl ?_
        refine ev_bipush (x := (-11)) zo_119_43 (by decide) rfl ?_
        obtain rfl := Option.some.inj h
        exact ev_retI zo_119_45 zr_119
      rw [if_neg c9] at h
      refine ev_if_t (t := 43) zo_119_32 rfl (zcm_ne c9) ?_
      refine ev_bipush (x := (-11)) zo_119_43 (by decide) rfl ?_
      obtain rfl := Option.some.inj h
      exact ev_retI zo_119_45 zr_119
/-! X6_passengers -/
def F_X6_passengers_73 : Nat → Int32 → Int32 → Nat → Int32 → Int32 → zzJ → Option (Int32 × zzJ)
  | 0, _, _, _, _, _, _ => none
  | n + 1, l3, l4, l5, l6, l7, J => (if l7 < l4 then (if zKd l5 = 4 then (Option.bind (F_X4_has l5 (l3 + ((2 : Int32) * l7)) J) fun q3 => (if q3.1 = (0 : Int32) then some ((-12 : Int32), q3.2) else (Option.bind (F_X4_has l5 ((l3 + ((2 : Int32) * l7)) + (1 : Int32)) q3.2) fun q5 => (if q5.1 = (0 : Int32) then some ((-12 : Int32), q5.2) else (Option.bind (F_X4_item l5 (l3 + ((2 : Int32) * l7)) q5.2) fun q7 => (Option.bind (F_X4_item l5 ((l3 + ((2 : Int32) * l7)) + (1 : Int32)) q7.2) fun q8 => (Option.bind (F_X6_passenger q7.1 q8.1 q8.2) fun q9 => (if q9.1 < (0 : Int32) then F_X6_passengers_73 n l3 l4 l5 l6 (l7 + 1) q9.2 else F_X6_passengers_73 n l3 l4 l5 (l6 + 1) (l7 + 1) q9.2)))))))) else none) else some (l6, J))
set_option maxRecDepth 100000 in
set_option maxHeartbeats 2000000 in
theorem G_X6_passengers_73 {d : Nat} (hd : 3 ≤ d) : ∀ (n : Nat) (l3 : Int32) (l4 : Int32) (l5 : Nat) (l6 : Int32) (l7 : Int32) (J : zzJ) (r : Int32 × zzJ), F_X6_passengers_73 n l3 l4 l5 l6 l7 J = some r → ∀ (lv1 : Value) (hlv1 : lv1.category = 1), ∀ (lv2 : Value) (hlv2 : lv2.category = 1), ∀ (lv8 : Value) (hlv8 : lv8.category = 1), zzEv d 120 73 [.ref 0, lv1, lv2, .int l3, .int l4, .ref l5, .int l6, .int l7, lv8] [] (zK J) (some (.int r.1), zK r.2) := by
  intro n
  induction n with
  | zero => intro l3 l4 l5 l6 l7 J r h; simp [F_X6_passengers_73] at h
  | succ n ih =>
    intro l3 l4 l5 l6 l7 J r h lv1 hlv1 lv2 hlv2 lv8 hlv8
    rw [F_X6_passengers_73] at h
    refine ev_iload zo_120_73 rfl rfl ?_
    refine ev_iload zo_120_75 rfl rfl ?_
    by_cases c1 : l7 < l4
    · rw [if_pos c1] at h
      refine ev_cmp_f (t := 145) zo_120_77 rfl (zcm_nge c1) rfl ?_
      refine ev_iload_n zo_120_80 rfl rfl rfl ?_
      refine ev_iconst (x := 2) zo_120_81 (by decide) rfl ?_
      refine ev_iload zo_120_82 rfl rfl ?_
      refine ev_imul zo_120_84 rfl ?_
      refine ev_iadd zo_120_85 rfl ?_
      refine ev_istore zo_120_86 (zz_set rfl (by decide) (Nat.le_of_ble_eq_true rfl)) rfl ?_
      show zzEv _ _ _ [.ref 0, lv1, lv2, .int l3, .int l4, .ref l5, .int l6, .int l7, .int (l3 + ((2 : Int32) * l7))] _ _ _
      refine ev_aload zo_120_88 rfl rfl rfl ?_
      refine ev_iload zo_120_90 rfl rfl ?_
      obtain ⟨c2, h⟩ := zz_chk h
      obtain ⟨q3, hq3, h⟩ := zz_bd h
      refine ev_cV (as := [.int (l3 + ((2 : Int32) * l7))]) (lsn := [.ref l5, .int (l3 + ((2 : Int32) * l7))]) (by omega) zo_120_92 zl_120_293 (by rw [zm_70]; rfl) (by rw [zm_70]; exact c2) (by rw [zm_70]; decide) (by unfold zzIn; rw [zm_70]; rfl) (by rw [zm_70]; exact Nat.le_of_ble_eq_true rfl) (Nat.le_of_ble_eq_true rfl) (G_X4_has (by omega) l5 (l3 + ((2 : Int32) * l7)) J q3 hq3) rfl ?_
      show zzEv _ _ _ _ [.int q3.1] _ _
      by_cases c4 : q3.1 = (0 : Int32)
      · rw [if_pos c4] at h
        refine ev_if_t (t := 110) zo_120_95 rfl (zcm_eq c4) ?_
        refine ev_bipush (x := (-12)) zo_120_110 (by decide) rfl ?_
        obtain rfl := Option.some.inj h
        exact ev_retI zo_120_112 zr_120
      rw [if_neg c4] at h
      refine ev_if_f (t := 110) zo_120_95 rfl (zcm_neq c4) rfl ?_
      refine ev_aload zo_120_98 rfl rfl rfl ?_
      refine ev_iload zo_120_100 rfl rfl ?_
      refine ev_iconst (x := 1) zo_120_102 (by decide) rfl ?_
      refine ev_iadd zo_120_103 rfl ?_
      obtain ⟨q5, hq5, h⟩ := zz_bd h
      refine ev_cV (as := [.int ((l3 + ((2 : Int32) * l7)) + (1 : Int32))]) (lsn := [.ref l5, .int ((l3 + ((2 : Int32) * l7)) + (1 : Int32))]) (by omega) zo_120_104 zl_120_293 (by rw [zm_70]; rfl) (by rw [zm_70]; exact c2) (by rw [zm_70]; decide) (by unfold zzIn; rw [zm_70]; rfl) (by rw [zm_70]; exact Nat.le_of_ble_eq_true rfl) (Nat.le_of_ble_eq_true rfl) (G_X4_has (by omega) l5 ((l3 + ((2 : Int32) * l7)) + (1 : Int32)) q3.2 q5 hq5) rfl ?_
      show zzEv _ _ _ _ [.int q5.1] _ _
      by_cases c6 : q5.1 = (0 : Int32)
      · rw [if_pos c6] at h
        refine ev_if_f (t := 113) zo_120_107 rfl (zcm_nne c6) rfl ?_
        refine ev_bipush (x := (-12)) zo_120_110 (by decide) rfl ?_
        obtain rfl := Option.some.inj h
        exact ev_retI zo_120_112 zr_120
      rw [if_neg c6] at h
      refine ev_if_t (t := 113) zo_120_107 rfl (zcm_ne c6) ?_
      refine ev_aload_n zo_120_113 rfl rfl rfl rfl ?_
      refine ev_aload zo_120_114 rfl rfl rfl ?_
      refine ev_iload zo_120_116 rfl rfl ?_
      obtain ⟨q7, hq7, h⟩ := zz_bd h
      refine ev_cV (as := [.int (l3 + ((2 : Int32) * l7))]) (lsn := [.ref l5, .int (l3 + ((2 : Int32) * l7))]) (by omega) zo_120_118 zl_120_309 (by rw [zm_72]; rfl) (by rw [zm_72]; exact c2) (by rw [zm_72]; decide) (by unfold zzIn; rw [zm_72]; rfl) (by rw [zm_72]; exact Nat.le_of_ble_eq_true rfl) (Nat.le_of_ble_eq_true rfl) (G_X4_item (by omega) l5 (l3 + ((2 : Int32) * l7)) q5.2 q7 hq7) rfl ?_
      show zzEv _ _ _ _ [.int q7.1, .ref 0] _ _
      refine ev_aload zo_120_121 rfl rfl rfl ?_
      refine ev_iload zo_120_123 rfl rfl ?_
      refine ev_iconst (x := 1) zo_120_125 (by decide) rfl ?_
      refine ev_iadd zo_120_126 rfl ?_
      obtain ⟨q8, hq8, h⟩ := zz_bd h
      refine ev_cV (as := [.int ((l3 + ((2 : Int32) * l7)) + (1 : Int32))]) (lsn := [.ref l5, .int ((l3 + ((2 : Int32) * l7)) + (1 : Int32))]) (by omega) zo_120_127 zl_120_309 (by rw [zm_72]; rfl) (by rw [zm_72]; exact c2) (by rw [zm_72]; decide) (by unfold zzIn; rw [zm_72]; rfl) (by rw [zm_72]; exact Nat.le_of_ble_eq_true rfl) (Nat.le_of_ble_eq_true rfl) (G_X4_item (by omega) l5 ((l3 + ((2 : Int32) * l7)) + (1 : Int32)) q7.2 q8 hq8) rfl ?_
      show zzEv _ _ _ _ [.int q8.1, .int q7.1, .ref 0] _ _
      obtain ⟨q9, hq9, h⟩ := zz_bd h
      refine ev_cV (as := [.int q8.1, .int q7.1]) (lsn := [.ref 0, .int q7.1, .int q8.1]) (by omega) zo_120_130 zl_120_312 (by rw [zm_84]; rfl) (by rw [zm_84]; exact rfl) (by rw [zm_84]; decide) (by unfold zzIn; rw [zm_84]; rfl) (by rw [zm_84]; exact Nat.le_of_ble_eq_true rfl) (Nat.le_of_ble_eq_true rfl) (G_X6_passenger (by omega) q7.1 q8.1 q8.2 q9 hq9) rfl ?_
      show zzEv _ _ _ _ [.int q9.1] _ _
      by_cases c10 : q9.1 < (0 : Int32)
      · rw [if_pos c10] at h
        refine ev_if_t (t := 139) zo_120_133 rfl (zcm_lt c10) ?_
        refine ev_iinc (v := 1) zo_120_139 rfl (by decide) (zz_set rfl (by decide) (Nat.le_of_ble_eq_true rfl)) rfl ?_
        show zzEv _ _ _ [.ref 0, lv1, lv2, .int l3, .int l4, .ref l5, .int l6, .int (l7 + 1), .int (l3 + ((2 : Int32) * l7))] _ _ _
        refine ev_goto (t := 73) zo_120_142 rfl ?_
        exact ih l3 l4 l5 l6 (l7 + 1) q9.2 r h (lv1) hlv1 (lv2) hlv2 (.int (l3 + ((2 : Int32) * l7))) rfl
      rw [if_neg c10] at h
      refine ev_if_f (t := 139) zo_120_133 rfl (zcm_nlt c10) rfl ?_
      refine ev_iinc (v := 1) zo_120_136 rfl (by decide) (zz_set rfl (by decide) (Nat.le_of_ble_eq_true rfl)) rfl ?_
      show zzEv _ _ _ [.ref 0, lv1, lv2, .int l3, .int l4, .ref l5, .int (l6 + 1), .int l7, .int (l3 + ((2 : Int32) * l7))] _ _ _
      refine ev_iinc (v := 1) zo_120_139 rfl (by decide) (zz_set rfl (by decide) (Nat.le_of_ble_eq_true rfl)) rfl ?_
      show zzEv _ _ _ [.ref 0, lv1, lv2, .int l3, .int l4, .ref l5, .int (l6 + 1), .int (l7 + 1), .int (l3 + ((2 : Int32) * l7))] _ _ _
      refine ev_goto (t := 73) zo_120_142 rfl ?_
      exact ih l3 l4 l5 (l6 + 1) (l7 + 1) q9.2 r h (lv1) hlv1 (lv2) hlv2 (.int (l3 + ((2 : Int32) * l7))) rfl
    rw [if_neg c1] at h
    refine ev_cmp_t (t := 145) zo_120_77 rfl (zcm_ge c1) ?_
    refine ev_iload zo_120_145 rfl rfl ?_
    obtain rfl := Option.some.inj h
    exact ev_retI zo_120_147 zr_120
def F_X6_passengers_56 (l3 : Int32) (l4 : Int32) (l5 : Nat) (J : zzJ) : Option (Int32 × zzJ) := (if zKd l5 = 4 then (Option.bind (F_X4_isMissing l5 J) fun q12 => (if q12.1 = (0 : Int32) then F_X6_passengers_73 4096 l3 l4 l5 (0 : Int32) (0 : Int32) q12.2 else some ((-11 : Int32), q12.2))) else none)
set_option maxRecDepth 100000 in
set_option maxHeartbeats 2000000 in
theorem G_X6_passengers_56 {d : Nat} (hd : 3 ≤ d) : ∀ (l3 : Int32) (l4 : Int32) (l5 : Nat) (J : zzJ) (r : Int32 × zzJ), F_X6_passengers_56 l3 l4 l5 J = some r → ∀ (lv1 : Value) (hlv1 : lv1.category = 1), ∀ (lv2 : Value) (hlv2 : lv2.category = 1), zzEv d 120 56 [.ref 0, lv1, lv2, .int l3, .int l4, .ref l5, zzU, zzU, zzU] [] (zK J) (some (.int r.1), zK r.2) := by
  intro l3 l4 l5 J r h lv1 hlv1 lv2 hlv2
  unfold F_X6_passengers_56 at h
  refine ev_aload zo_120_56 rfl rfl rfl ?_
  obtain ⟨c11, h⟩ := zz_chk h
  obtain ⟨q12, hq12, h⟩ := zz_bd h
  refine ev_cV (as := []) (lsn := [.ref l5]) (by omega) zo_120_58 zl_120_239 (by rw [zm_69]; rfl) (by rw [zm_69]; exact c11) (by rw [zm_69]; decide) (by unfold zzIn; rw [zm_69]; rfl) (by rw [zm_69]; exact Nat.le_of_ble_eq_true rfl) (Nat.le_of_ble_eq_true rfl) (G_X4_isMissing (by omega) l5 J q12 hq12) rfl ?_
  show zzEv _ _ _ _ [.int q12.1] _ _
  by_cases c13 : q12.1 = (0 : Int32)
  · rw [if_pos c13] at h
    refine ev_if_t (t := 67) zo_120_61 rfl (zcm_eq c13) ?_
    refine ev_iconst (x := 0) zo_120_67 (by decide) rfl ?_
    refine ev_istore zo_120_68 (zz_set rfl (by decide) (Nat.le_of_ble_eq_true rfl)) rfl ?_
    show zzEv _ _ _ [.ref 0, lv1, lv2, .int l3, .int l4, .ref l5, .int (0 : Int32), zzU, zzU] _ _ _
    refine ev_iconst (x := 0) zo_120_70 (by decide) rfl ?_
    refine ev_istore zo_120_71 (zz_set rfl (by decide) (Nat.le_of_ble_eq_true rfl)) rfl ?_
    show zzEv _ _ _ [.ref 0, lv1, lv2, .int l3, .int l4, .ref l5, .int (0 : Int32), .int (0 : Int32), zzU] _ _ _
    exact G_X6_passengers_73 hd 4096 l3 l4 l5 (0 : Int32) (0 : Int32) q12.2 r h (lv1) hlv1 (lv2) hlv2 (zzU) rfl
  rw [if_neg c13] at h
  refine ev_if_f (t := 67) zo_120_61 rfl (zcm_neq c13) rfl ?_
  refine ev_bipush (x := (-11)) zo_120_64 (by decide) rfl ?_
  obtain rfl := Option.some.inj h
  exact ev_retI zo_120_66 zr_120
def F_X6_passengers (x1 : Int32) (x2 : Int32) (x3 : Int32) (x4 : Int32) (J : zzJ) : Option (Int32 × zzJ) := (Option.bind (F_X6_sheetAt x1 J) fun q14 => (match q14.1 with | none => some ((-2 : Int32), q14.2) | some b16 => (if x2 < (0 : Int32) then some ((-2 : Int32), q14.2) else (if (2 : Int32) < x2 then some ((-2 : Int32), q14.2) else (if x4 < (0 : Int32) then some ((-2 : Int32), q14.2) else (if (8 : Int32) < x4 then some ((-2 : Int32), q14.2) else (if zKd b16 = 4 then (Option.bind (F_X4_isMissing b16 q14.2) fun q22 => (if q22.1 = (0 : Int32) then (if (q22.2.2 b16 0) = x2 then F_X6_passengers_56 x3 x4 b16 q22.2 else some ((-13 : Int32), q22.2)) else F_X6_passengers_56 x3 x4 b16 q22.2)) else none)))))))
set_option maxRecDepth 100000 in
set_option maxHeartbeats 2000000 in
theorem G_X6_passengers {d : Nat} (hd : 3 ≤ d) (x1 : Int32) (x2 : Int32) (x3 : Int32) (x4 : Int32) (J : zzJ) (r : Int32 × zzJ) (h : F_X6_passengers x1 x2 x3 x4 J = some r) : zzEv d 120 0 [.ref 0, .int x1, .int x2, .int x3, .int x4, zzU, zzU, zzU, zzU] [] (zK J) (some (.int r.1), zK r.2) := by
  unfold F_X6_passengers at h
  refine ev_aload_n zo_120_0 rfl rfl rfl rfl ?_
  refine ev_iload_n zo_120_1 rfl rfl rfl ?_
  obtain ⟨q14, hq14, h⟩ := zz_bd h
  refine ev_cV (as := [.int x1]) (lsn := [.ref 0, .int x1]) (by omega) zo_120_2 zl_120_208 (by rw [zm_124]; rfl) (by rw [zm_124]; exact rfl) (by rw [zm_124]; decide) (by unfold zzIn; rw [zm_124]; rfl) (by rw [zm_124]; exact Nat.le_of_ble_eq_true rfl) (Nat.le_of_ble_eq_true rfl) (G_X6_sheetAt (by omega) x1 J q14 hq14) rfl ?_
  show zzEv _ _ _ _ [va_rf q14.1] _ _
  refine ev_astore zo_120_5 (zz_is3 _) (zz_set rfl (by decide) (Nat.le_of_ble_eq_true rfl)) rfl ?_
  show zzEv _ _ _ [.ref 0, .int x1, .int x2, .int x3, .int x4, va_rf q14.1, zzU, zzU, zzU] _ _ _
  refine ev_aload zo_120_7 rfl (zz_is3 _) rfl ?_
  generalize q14.1 = o15 at h ⊢
  cases o15 with
  | none =>
    dsimp only at h
    refine ev_ifnull_n (t := 33) zo_120_9 rfl ?_
    refine ev_bipush (x := (-2)) zo_120_33 (by decide) rfl ?_
    obtain rfl := Option.some.inj h
    exact ev_retI zo_120_35 zr_120
  | some b16 =>
    dsimp only at h
    refine ev_ifnull_r (t := 33) zo_120_9 rfl rfl ?_
    refine ev_iload_n zo_120_12 rfl rfl rfl ?_
    by_cases c17 : x2 < (0 : Int32)
    · rw [if_pos c17] at h
      refine ev_if_t (t := 33) zo_120_13 rfl (zcm_lt c17) ?_
      refine ev_bipush (x := (-2)) zo_120_33 (by decide) rfl ?_
      obtain rfl := Option.some.inj h
      exact ev_retI zo_120_35 zr_120
    rw [if_neg c17] at h
    refine ev_if_f (t := 33) zo_120_13 rfl (zcm_nlt c17) rfl ?_
    refine ev_iload_n zo_120_16 rfl rfl rfl ?_
    refine ev_iconst (x := 2) zo_120_17 (by decide) rfl ?_
    by_cases c18 : (2 : Int32) < x2
    · rw [if_pos c18] at h
      refine ev_cmp_t (t := 33) zo_120_18 rfl (zcm_gt c18) ?_
      refine ev_bipush (x := (-2)) zo_120_33 (by decide) rfl ?_
      obtain rfl := Option.some.inj h
      exact ev_retI zo_120_35 zr_120
    rw [if_neg c18] at h
    refine ev_cmp_f (t := 33) zo_120_18 rfl (zcm_ngt c18) rfl ?_
    refine ev_iload zo_120_21 rfl rfl ?_
    by_cases c19 : x4 < (0 : Int32)
    · rw [if_pos c19] at h
      refine ev_if_t (t := 33) zo_120_23 rfl (zcm_lt c19) ?_
      refine ev_bipush (x := (-2)) zo_120_33 (by decide) rfl ?_
      obtain rfl := Option.some.inj h
      exact ev_retI zo_120_35 zr_120
    rw [if_neg c19] at h
    refine ev_if_f (t := 33) zo_120_23 rfl (zcm_nlt c19) rfl ?_
    refine ev_iload zo_120_26 rfl rfl ?_
    refine ev_bipush (x := 8) zo_120_28 (by decide) rfl ?_
    by_cases c20 : (8 : Int32) < x4
    · rw [if_pos c20] at h
      refine ev_cmp_f (t := 36) zo_120_30 rfl (zcm_nle c20) rfl ?_
      refine ev_bipush (x := (-2)) zo_120_33 (by decide) rfl ?_
      obtain rfl := Option.some.inj h
      exact ev_retI zo_120_35 zr_120
    rw [if_neg c20] at h
    refine ev_cmp_t (t := 36) zo_120_30 rfl (zcm_le c20) ?_
    refine ev_aload zo_120_36 rfl rfl rfl ?_
    obtain ⟨c21, h⟩ := zz_chk h
    obtain ⟨q22, hq22, h⟩ := zz_bd h
    refine ev_cV (as := []) (lsn := [.ref b16]) (by omega) zo_120_38 zl_120_239 (by rw [zm_69]; rfl) (by rw [zm_69]; exact c21) (by rw [zm_69]; decide) (by unfold zzIn; rw [zm_69]; rfl) (by rw [zm_69]; exact Nat.le_of_ble_eq_true rfl) (Nat.le_of_ble_eq_true rfl) (G_X4_isMissing (by omega) b16 q14.2 q22 hq22) rfl ?_
    show zzEv _ _ _ _ [.int q22.1] _ _
    by_cases c23 : q22.1 = (0 : Int32)
    · rw [if_pos c23] at h
      refine ev_if_f (t := 56) zo_120_41 rfl (zcm_nne c23) rfl ?_
      refine ev_aload zo_120_44 rfl rfl rfl ?_
      refine ev_getI zo_120_46 zf_120_294 (by decide) (Or.inl rfl) c21 rfl ?_
      refine ev_iload_n zo_120_49 rfl rfl rfl ?_
      by_cases c24 : (q22.2.2 b16 0) = x2
      · rw [if_pos c24] at h
        refine ev_cmp_t (t := 56) zo_120_50 rfl (zcm_eq c24) ?_
        exact G_X6_passengers_56 hd x3 x4 b16 q22.2 r h (.int x1) rfl (.int x2) rfl
      rw [if_neg c24] at h
      refine ev_cmp_f (t := 56) zo_120_50 rfl (zcm_neq c24) rfl ?_
      refine ev_bipush (x := (-13)) zo_120_53 (by decide) rfl ?_
      obtain rfl := Option.some.inj h
      exact ev_retI zo_120_55 zr_120
    rw [if_neg c23] at h
    refine ev_if_t (t := 56) zo_120_41 rfl (zcm_ne c23) ?_
    exact G_X6_passengers_56 hd x3 x4 b16 q22.2 r h (.int x1) rfl (.int x2) rfl
/-! X6_kindAbove -/
def F_X6_kindAbove (x0 : Int32) (J : zzJ) : Option (Int32 × zzJ) := (if x0 = 1 then some ((0 : Int32), J) else (if x0 = 2 then some ((0 : Int32), J) else (if x0 = 3 then some ((1 : Int32), J) else (if x0 = 4 then some ((2 : Int32), J) else (if x0 = 5 then some ((0 : Int32), J) else some ((-1 : Int32), J))))))
set_option maxRecDepth 100000 in
set_option maxHeartbeats 2000000 in
theorem G_X6_kindAbove {d : Nat} (hd : 0 ≤ d) (x0 : Int32) (J : zzJ) (r : Int32 × zzJ) (h : F_X6_kindAbove x0 J = some r) : zzEv d 123 0 [.int x0] [] (zK J) (some (.int r.1), zK r.2) := by
  unfold F_X6_kindAbove at h
  refine ev_iload_n zo_123_0 rfl rfl rfl ?_
  by_cases s1 : x0 = 1
  · rw [if_pos s1] at h
    refine ev_tableIn (t := 36) zo_123_1 s1 rfl ?_
    refine ev_iconst (x := 0) zo_123_36 (by decide) rfl ?_
    obtain rfl := Option.some.inj h
    exact ev_retI zo_123_37 zr_123
  rw [if_neg s1] at h
  by_cases s2 : x0 = 2
  · rw [if_pos s2] at h
    refine ev_tableIn (t := 36) zo_123_1 s2 rfl ?_
    refine ev_iconst (x := 0) zo_123_36 (by decide) rfl ?_
    obtain rfl := Option.some.inj h
    exact ev_retI zo_123_37 zr_123
  rw [if_neg s2] at h
  by_cases s3 : x0 = 3
  · rw [if_pos s3] at h
    refine ev_tableIn (t := 38) zo_123_1 s3 rfl ?_
    refine ev_iconst (x := 1) zo_123_38 (by decide) rfl ?_
    obtain rfl := Option.some.inj h
    exact ev_retI zo_123_39 zr_123
  rw [if_neg s3] at h
  by_cases s4 : x0 = 4
  · rw [if_pos s4] at h
    refine ev_tableIn (t := 40) zo_123_1 s4 rfl ?_
    refine ev_iconst (x := 2) zo_123_40 (by decide) rfl ?_
    obtain rfl := Option.some.inj h
    exact ev_retI zo_123_41 zr_123
  rw [if_neg s4] at h
  by_cases s5 : x0 = 5
  · rw [if_pos s5] at h
    refine ev_tableIn (t := 36) zo_123_1 s5 rfl ?_
    refine ev_iconst (x := 0) zo_123_36 (by decide) rfl ?_
    obtain rfl := Option.some.inj h
    exact ev_retI zo_123_37 zr_123
  rw [if_neg s5] at h
  refine ev_tableOut (t := 42) zo_123_1 (sw_out 5 rfl fun k hk => ?_) rfl ?_
  · rcases (show k = 0 ∨ k = 1 ∨ k = 2 ∨ k = 3 ∨ k = 4 by omega) with rfl | rfl | rfl | rfl | rfl
    · exact sw_ne s1 (by decide)
    · exact sw_ne s2 (by decide)
    · exact sw_ne s3 (by decide)
    · exact sw_ne s4 (by decide)
    · exact sw_ne s5 (by decide)
  refine ev_iconst (x := (-1)) zo_123_42 (by decide) rfl ?_
  obtain rfl := Option.some.inj h
  exact ev_retI zo_123_43 zr_123
/-! X6_isUnder -/
def F_X6_isUnder_31 (l1 : Int32) (l2 : Int32) (J : zzJ) : Option (Int32 × zzJ) := (if l2 = l1 then some ((1 : Int32), J) else some ((0 : Int32), J))
set_option maxRecDepth 100000 in
set_option maxHeartbeats 2000000 in
theorem G_X6_isUnder_31 {d : Nat} (hd : 1 ≤ d) : ∀ (l1 : Int32) (l2 : Int32) (J : zzJ) (r : Int32 × zzJ), F_X6_isUnder_31 l1 l2 J = some r → ∀ (lv0 : Value) (hlv0 : lv0.category = 1), ∀ (lv3 : Value) (hlv3 : lv3.category = 1), zzEv d 122 31 [lv0, .int l1, .int l2, lv3] [] (zK J) (some (.int r.1), zK r.2) := by
  intro l1 l2 J r h lv0 hlv0 lv3 hlv3
  unfold F_X6_isUnder_31 at h
  refine ev_iload_n zo_122_31 rfl rfl rfl ?_
  refine ev_iload_n zo_122_32 rfl rfl rfl ?_
  by_cases c1 : l2 = l1
  · rw [if_pos c1] at h
    refine ev_cmp_f (t := 40) zo_122_33 rfl (zcm_nne c1) rfl ?_
    refine ev_iconst (x := 1) zo_122_36 (by decide) rfl ?_
    refine ev_goto (t := 41) zo_122_37 rfl ?_
    obtain rfl := Option.some.inj h
    exact ev_retZ zo_122_41 zr_122 (Or.inr rfl)
  rw [if_neg c1] at h
  refine ev_cmp_t (t := 40) zo_122_33 rfl (zcm_ne c1) ?_
  refine ev_iconst (x := 0) zo_122_40 (by decide) rfl ?_
  obtain rfl := Option.some.inj h
  exact ev_retZ zo_122_41 zr_122 (Or.inl rfl)
def F_X6_isUnder_4 : Nat → Int32 → Int32 → Int32 → zzJ → Option (Int32 × zzJ)
  | 0, _, _, _, _ => none
  | n + 1, l1, l2, l3, J => (if l3 < (6 : Int32) then (if l2 = l1 then F_X6_isUnder_31 l1 l2 J else (if l2 = (-1 : Int32) then F_X6_isUnder_31 l1 l2 J else (Option.bind (F_X6_kindAbove l2 J) fun q5 => F_X6_isUnder_4 n l1 q5.1 (l3 + 1) q5.2))) else F_X6_isUnder_31 l1 l2 J)
set_option maxRecDepth 100000 in
set_option maxHeartbeats 2000000 in
theorem G_X6_isUnder_4 {d : Nat} (hd : 1 ≤ d) : ∀ (n : Nat) (l1 : Int32) (l2 : Int32) (l3 : Int32) (J : zzJ) (r : Int32 × zzJ), F_X6_isUnder_4 n l1 l2 l3 J = some r → ∀ (lv0 : Value) (hlv0 : lv0.category = 1), zzEv d 122 4 [lv0, .int l1, .int l2, .int l3] [] (zK J) (some (.int r.1), zK r.2) := by
  intro n
  induction n with
  | zero => intro l1 l2 l3 J r h; simp [F_X6_isUnder_4] at h
  | succ n ih =>
    intro l1 l2 l3 J r h lv0 hlv0
    rw [F_X6_isUnder_4] at h
    refine ev_iload_n zo_122_4 rfl rfl rfl ?_
    refine ev_bipush (x := 6) zo_122_5 (by decide) rfl ?_
    by_cases c2 : l3 < (6 : Int32)
    · rw [if_pos c2] at h
      refine ev_cmp_f (t := 31) zo_122_7 rfl (zcm_nge c2) rfl ?_
      refine ev_iload_n zo_122_10 rfl rfl rfl ?_
      refine ev_iload_n zo_122_11 rfl rfl rfl ?_
      by_cases c3 : l2 = l1
      · rw [if_pos c3] at h
        refine ev_cmp_t (t := 31) zo_122_12 rfl (zcm_eq c3) ?_
        exact G_X6_isUnder_31 hd l1 l2 J r h (lv0) hlv0 (.int l3) rfl
      rw [if_neg c3] at h
      refine ev_cmp_f (t := 31) zo_122_12 rfl (zcm_neq c3) rfl ?_
      refine ev_iload_n zo_122_15 rfl rfl rfl ?_
      refine ev_iconst (x := (-1)) zo_122_16 (by decide) rfl ?_
      by_cases c4 : l2 = (-1 : Int32)
      · rw [if_pos c4] at h
        refine ev_cmp_t (t := 31) zo_122_17 rfl (zcm_eq c4) ?_
        exact G_X6_isUnder_31 hd l1 l2 J r h (lv0) hlv0 (.int l3) rfl
      rw [if_neg c4] at h
      refine ev_cmp_f (t := 31) zo_122_17 rfl (zcm_neq c4) rfl ?_
      refine ev_iload_n zo_122_20 rfl rfl rfl ?_
      obtain ⟨q5, hq5, h⟩ := zz_bd h
      refine ev_cS (as := [.int l2]) (lsn := [.int l2]) (by omega) zo_122_21 zl_122_318 (by decide) (by rw [zm_123]; rfl) (by unfold zzIn; rw [zm_123]; rfl) (by rw [zm_123]; exact Nat.le_of_ble_eq_true rfl) (Nat.le_of_ble_eq_true rfl) (G_X6_kindAbove (by omega) l2 J q5 hq5) rfl ?_
      show zzEv _ _ _ _ [.int q5.1] _ _
      refine ev_istore_n zo_122_24 rfl (zz_set rfl (by decide) (Nat.le_of_ble_eq_true rfl)) rfl ?_
      show zzEv _ _ _ [lv0, .int l1, .int q5.1, .int l3] _ _ _
      refine ev_iinc (v := 1) zo_122_25 rfl (by decide) (zz_set rfl (by decide) (Nat.le_of_ble_eq_true rfl)) rfl ?_
      show zzEv _ _ _ [lv0, .int l1, .int q5.1, .int (l3 + 1)] _ _ _
      refine ev_goto (t := 4) zo_122_28 rfl ?_
      exact ih l1 q5.1 (l3 + 1) q5.2 r h (lv0) hlv0
    rw [if_neg c2] at h
    refine ev_cmp_t (t := 31) zo_122_7 rfl (zcm_ge c2) ?_
    exact G_X6_isUnder_31 hd l1 l2 J r h (lv0) hlv0 (.int l3) rfl
def F_X6_isUnder (x0 : Int32) (x1 : Int32) (J : zzJ) : Option (Int32 × zzJ) := F_X6_isUnder_4 4096 x1 x0 (0 : Int32) J
set_option maxRecDepth 100000 in
set_option maxHeartbeats 2000000 in
theorem G_X6_isUnder {d : Nat} (hd : 1 ≤ d) (x0 : Int32) (x1 : Int32) (J : zzJ) (r : Int32 × zzJ) (h : F_X6_isUnder x0 x1 J = some r) : zzEv d 122 0 [.int x0, .int x1, zzU, zzU] [] (zK J) (some (.int r.1), zK r.2) := by
  unfold F_X6_isUnder at h
  refine ev_iload_n zo_122_0 rfl rfl rfl ?_
  refine ev_istore_n zo_122_1 rfl (zz_set rfl (by decide) (Nat.le_of_ble_eq_true rfl)) rfl ?_
  show zzEv _ _ _ [.int x0, .int x1, .int x0, zzU] _ _ _
  refine ev_iconst (x := 0) zo_122_2 (by decide) rfl ?_
  refine ev_istore_n zo_122_3 rfl (zz_set rfl (by decide) (Nat.le_of_ble_eq_true rfl)) rfl ?_
  show zzEv _ _ _ [.int x0, .int x1, .int x0, .int (0 : Int32)] _ _ _
  exact G_X6_isUnder_4 hd 4096 x1 x0 (0 : Int32) J r h (.int x0) rfl
/-! X6_taken -/
def F_X6_taken (x1 : Int32) (x2 : Int32) (J : zzJ) : Option (Int32 × zzJ) := (if x2 < (0 : Int32) then some ((-2 : Int32), J) else (if x2 < (6 : Int32) then (Option.bind (F_X0_has 7 x1 J) fun q3 => (if q3.1 = (0 : Int32) then some ((-11 : Int32), q3.2) else (Option.bind (F_X0_kindOf 7 x1 q3.2) fun q5 => (Option.bind (F_X6_isUnder q5.1 x2 q5.2) fun q6 => (if q6.1 = (0 : Int32) then some ((-13 : Int32), q6.2) else (Option.bind (F_X0_numberOf 7 x1 q6.2) fun q8 => some (q8.1, q8.2))))))) else some ((-2 : Int32), J)))
set_option maxRecDepth 100000 in
set_option maxHeartbeats 2000000 in
theorem G_X6_taken {d : Nat} (hd : 2 ≤ d) (x1 : Int32) (x2 : Int32) (J : zzJ) (r : Int32 × zzJ) (h : F_X6_taken x1 x2 J = some r) : zzEv d 121 0 [.ref 0, .int x1, .int x2] [] (zK J) (some (.int r.1), zK r.2) := by
  unfold F_X6_taken at h
  refine ev_iload_n zo_121_0 rfl rfl rfl ?_
  by_cases c1 : x2 < (0 : Int32)
  · rw [if_pos c1] at h
    refine ev_if_t (t := 10) zo_121_1 rfl (zcm_lt c1) ?_
    refine ev_bipush (x := (-2)) zo_121_10 (by decide) rfl ?_
    obtain rfl := Option.some.inj h
    exact ev_retI zo_121_12 zr_121
  rw [if_neg c1] at h
  refine ev_if_f (t := 10) zo_121_1 rfl (zcm_nlt c1) rfl ?_
  refine ev_iload_n zo_121_4 rfl rfl rfl ?_
  refine ev_bipush (x := 6) zo_121_5 (by decide) rfl ?_
  by_cases c2 : x2 < (6 : Int32)
  · rw [if_pos c2] at h
    refine ev_cmp_t (t := 13) zo_121_7 rfl (zcm_lt c2) ?_
    refine ev_aload_n zo_121_13 rfl rfl rfl rfl ?_
    refine ev_getR zo_121_14 zf_121_28 (by decide) rfl rfl rfl rfl ?_
    refine ev_iload_n zo_121_17 rfl rfl rfl ?_
    obtain ⟨q3, hq3, h⟩ := zz_bd h
    refine ev_cV (as := [.int x1]) (lsn := [.ref 7, .int x1]) (by omega) zo_121_18 zl_121_86 (by rw [zm_2]; rfl) (by rw [zm_2]; exact rfl) (by rw [zm_2]; decide) (by unfold zzIn; rw [zm_2]; rfl) (by rw [zm_2]; exact Nat.le_of_ble_eq_true rfl) (Nat.le_of_ble_eq_true rfl) (G_X0_has (by omega) 7 x1 J q3 hq3) rfl ?_
    show zzEv _ _ _ _ [.int q3.1] _ _
    by_cases c4 : q3.1 = (0 : Int32)
    · rw [if_pos c4] at h
      refine ev_if_f (t := 27) zo_121_21 rfl (zcm_nne c4) rfl ?_
      refine ev_bipush (x := (-11)) zo_121_24 (by decide) rfl ?_
      obtain rfl := Option.some.inj h
      exact ev_retI zo_121_26 zr_121
    rw [if_neg c4] at h
    refine ev_if_t (t := 27) zo_121_21 rfl (zcm_ne c4) ?_
    refine ev_aload_n zo_121_27 rfl rfl rfl rfl ?_
    refine ev_getR zo_121_28 zf_121_28 (by decide) rfl rfl rfl rfl ?_
    refine ev_iload_n zo_121_31 rfl rfl rfl ?_
    obtain ⟨q5, hq5, h⟩ := zz_bd h
    refine ev_cV (as := [.int x1]) (lsn := [.ref 7, .int x1]) (by omega) zo_121_32 zl_121_130 (by rw [zm_4]; rfl) (by rw [zm_4]; exact rfl) (by rw [zm_4]; decide) (by unfold zzIn; rw [zm_4]; rfl) (by rw [zm_4]; exact Nat.le_of_ble_eq_true rfl) (Nat.le_of_ble_eq_true rfl) (G_X0_kindOf (by omega) 7 x1 q3.2 q5 hq5) rfl ?_
    show zzEv _ _ _ _ [.int q5.1] _ _
    refine ev_iload_n zo_121_35 rfl rfl rfl ?_
    obtain ⟨q6, hq6, h⟩ := zz_bd h
    refine ev_cS (as := [.int x2, .int q5.1]) (lsn := [.int q5.1, .int x2, zzU, zzU]) (by omega) zo_121_36 zl_121_315 (by decide) (by rw [zm_122]; rfl) (by unfold zzIn; rw [zm_122]; rfl) (by rw [zm_122]; exact Nat.le_of_ble_eq_true rfl) (Nat.le_of_ble_eq_true rfl) (G_X6_isUnder (by omega) q5.1 x2 q5.2 q6 hq6) rfl ?_
    show zzEv _ _ _ _ [.int q6.1] _ _
    by_cases c7 : q6.1 = (0 : Int32)
    · rw [if_pos c7] at h
      refine ev_if_t (t := 53) zo_121_39 rfl (zcm_eq c7) ?_
      refine ev_bipush (x := (-13)) zo_121_53 (by decide) rfl ?_
      obtain rfl := Option.some.inj h
      exact ev_retI zo_121_55 zr_121
    rw [if_neg c7] at h
    refine ev_if_f (t := 53) zo_121_39 rfl (zcm_neq c7) rfl ?_
    refine ev_aload_n zo_121_42 rfl rfl rfl rfl ?_
    refine ev_getR zo_121_43 zf_121_28 (by decide) rfl rfl rfl rfl ?_
    refine ev_iload_n zo_121_46 rfl rfl rfl ?_
    obtain ⟨q8, hq8, h⟩ := zz_bd h
    refine ev_cV (as := [.int x1]) (lsn := [.ref 7, .int x1]) (by omega) zo_121_47 zl_121_124 (by rw [zm_5]; rfl) (by rw [zm_5]; exact rfl) (by rw [zm_5]; decide) (by unfold zzIn; rw [zm_5]; rfl) (by rw [zm_5]; exact Nat.le_of_ble_eq_true rfl) (Nat.le_of_ble_eq_true rfl) (G_X0_numberOf (by omega) 7 x1 q6.2 q8 hq8) rfl ?_
    show zzEv _ _ _ _ [.int q8.1] _ _
    refine ev_goto (t := 55) zo_121_50 rfl ?_
    obtain rfl := Option.some.inj h
    exact ev_retI zo_121_55 zr_121
  rw [if_neg c2] at h
  refine ev_cmp_f (t := 13) zo_121_7 rfl (zcm_nlt c2) rfl ?_
  refine ev_bipush (x := (-2)) zo_121_10 (by decide) rfl ?_
  obtain rfl := Option.some.inj h
  exact ev_retI zo_121_12 zr_121
/-! X7_in -/
def F_X7_in (x0 : Int64) (x1 : Int64) (x2 : Int64) (J : zzJ) : Option (Int32 × zzJ) := (if (lg_cmp x0 x1) < (0 : Int32) then some ((0 : Int32), J) else (if (0 : Int32) < (lg_cmp x0 x2) then some ((0 : Int32), J) else some ((1 : Int32), J)))
set_option maxRecDepth 100000 in
set_option maxHeartbeats 2000000 in
theorem G_X7_in {d : Nat} (hd : 0 ≤ d) (x0 : Int64) (x1 : Int64) (x2 : Int64) (J : zzJ) (r : Int32 × zzJ) (h : F_X7_in x0 x1 x2 J = some r) : zzEv d 136 0 [.long x0, zzU, .long x1, zzU, .long x2, zzU] [] (zK J) (some (.int r.1), zK r.2) := by
  unfold F_X7_in at h
  refine ev_lload_n zo_136_0 rfl rfl rfl ?_
  refine ev_lload_n zo_136_1 rfl rfl rfl ?_
  refine ev_lcmp zo_136_2 rfl ?_
  by_cases c1 : (lg_cmp x0 x1) < (0 : Int32)
  · rw [if_pos c1] at h
    refine ev_if_t (t := 17) zo_136_3 rfl (zcm_lt c1) ?_
    refine ev_iconst (x := 0) zo_136_17 (by decide) rfl ?_
    obtain rfl := Option.some.inj h
    exact ev_retZ zo_136_18 zr_136 (Or.inl rfl)
  rw [if_neg c1] at h
  refine ev_if_f (t := 17) zo_136_3 rfl (zcm_nlt c1) rfl ?_
  refine ev_lload_n zo_136_6 rfl rfl rfl ?_
  refine ev_lload zo_136_7 rfl rfl ?_
  refine ev_lcmp zo_136_9 rfl ?_
  by_cases c2 : (0 : Int32) < (lg_cmp x0 x2)
  · rw [if_pos c2] at h
    refine ev_if_t (t := 17) zo_136_10 rfl (zcm_gt c2) ?_
    refine ev_iconst (x := 0) zo_136_17 (by decide) rfl ?_
    obtain rfl := Option.some.inj h
    exact ev_retZ zo_136_18 zr_136 (Or.inl rfl)
  rw [if_neg c2] at h
  refine ev_if_f (t := 17) zo_136_10 rfl (zcm_ngt c2) rfl ?_
  refine ev_iconst (x := 1) zo_136_13 (by decide) rfl ?_
  refine ev_goto (t := 18) zo_136_14 rfl ?_
  obtain rfl := Option.some.inj h
  exact ev_retZ zo_136_18 zr_136 (Or.inr rfl)
