/-! the methods as functions, and that they are (written by wip/whole/gen2.py) -/
/-! X7_unlike -/
def F_X7_unlike_4 : Nat → Nat → Int32 → Int32 → Int32 → zzJ → Option (Int32 × zzJ)
  | 0, _, _, _, _, _ => none
  | n + 1, l0, l1, l2, l3, J => (if zKd l0 = 7 then (if l3 < (J.2 l0 14) then (Option.bind (F_X7_noiseOf l0 l3 J) fun q3 => (Option.bind (zMR l0 51) fun b4 => (if zKd b4 = 8 then (if zzIx (((40 : Int32) * l1) + l3) (zSz b4) then (if q3.1 = (q3.2.2 b4 (((40 : Int32) * l1) + l3).toNatClampNeg) then F_X7_unlike_4 n l0 l1 (l2 ||| ((0 : Int32) <<< (l3 &&& 31))) (l3 + 1) q3.2 else F_X7_unlike_4 n l0 l1 (l2 ||| ((1 : Int32) <<< (l3 &&& 31))) (l3 + 1) q3.2) else none) else none))) else some (l2, J)) else none)
set_option maxRecDepth 100000 in
set_option maxHeartbeats 2000000 in
theorem G_X7_unlike_4 {d : Nat} (hd : 14 ≤ d) : ∀ (n : Nat) (l0 : Nat) (l1 : Int32) (l2 : Int32) (l3 : Int32) (J : zzJ) (r : Int32 × zzJ), F_X7_unlike_4 n l0 l1 l2 l3 J = some r → zzEv d 196 4 [.ref l0, .int l1, .int l2, .int l3] [] (zK J) (some (.int r.1), zK r.2) := by
  intro n
  induction n with
  | zero => intro l0 l1 l2 l3 J r h; simp [F_X7_unlike_4] at h
  | succ n ih =>
    intro l0 l1 l2 l3 J r h
    rw [F_X7_unlike_4] at h
    refine ev_iload_n zo_196_4 rfl rfl rfl ?_
    refine ev_aload_n zo_196_5 rfl rfl rfl rfl ?_
    obtain ⟨c1, h⟩ := zz_chk h
    refine ev_getI zo_196_6 zf_196_85 (by decide) (Or.inl rfl) c1 rfl ?_
    by_cases c2 : l3 < (J.2 l0 14)
    · rw [if_pos c2] at h
      refine ev_cmp_f (t := 47) zo_196_9 rfl (zcm_nge c2) rfl ?_
      refine ev_iload_n zo_196_12 rfl rfl rfl ?_
      refine ev_aload_n zo_196_13 rfl rfl rfl rfl ?_
      refine ev_iload_n zo_196_14 rfl rfl rfl ?_
      obtain ⟨q3, hq3, h⟩ := zz_bd h
      refine ev_cV (as := [.int l3]) (lsn := [.ref l0, .int l3, zzU, zzU, zzU, zzU]) (by omega) zo_196_15 zl_196_133 (by rw [zm_175]; rfl) (by rw [zm_175]; exact c1) (by rw [zm_175]; decide) (by unfold zzIn; rw [zm_175]; rfl) (by rw [zm_175]; exact Nat.le_of_ble_eq_true rfl) (Nat.le_of_ble_eq_true rfl) (G_X7_noiseOf (by omega) l0 l3 J q3 hq3) rfl ?_
      show zzEv _ _ _ _ [.int q3.1, .int l2] _ _
      refine ev_aload_n zo_196_18 rfl rfl rfl rfl ?_
      obtain ⟨b4, eb4, h⟩ := zz_bd h
      refine ev_getR zo_196_19 zf_196_75 (by decide) rfl c1 eb4 rfl ?_
      refine ev_bipush (x := 40) zo_196_22 (by decide) rfl ?_
      refine ev_iload_n zo_196_24 rfl rfl rfl ?_
      refine ev_imul zo_196_25 rfl ?_
      refine ev_iload_n zo_196_26 rfl rfl rfl ?_
      refine ev_iadd zo_196_27 rfl ?_
      obtain ⟨c5, h⟩ := zz_chk h
      obtain ⟨c6, h⟩ := zz_chk h
      refine ev_iald zo_196_28 c5 c6 rfl ?_
      by_cases c7 : q3.1 = (q3.2.2 b4 (((40 : Int32) * l1) + l3).toNatClampNeg)
      · rw [if_pos c7] at h
        refine ev_cmp_f (t := 36) zo_196_29 rfl (zcm_nne c7) rfl ?_
        refine ev_iconst (x := 0) zo_196_32 (by decide) rfl ?_
        refine ev_goto (t := 37) zo_196_33 rfl ?_
        refine ev_iload_n zo_196_37 rfl rfl rfl ?_
        refine ev_ishl zo_196_38 rfl ?_
        refine ev_ior zo_196_39 rfl ?_
        refine ev_istore_n zo_196_40 rfl (zz_set rfl (by decide) (Nat.le_of_ble_eq_true rfl)) rfl ?_
        show zzEv _ _ _ [.ref l0, .int l1, .int (l2 ||| ((0 : Int32) <<< (l3 &&& 31))), .int l3] _ _ _
        refine ev_iinc (v := 1) zo_196_41 rfl (by decide) (zz_set rfl (by decide) (Nat.le_of_ble_eq_true rfl)) rfl ?_
        show zzEv _ _ _ [.ref l0, .int l1, .int (l2 ||| ((0 : Int32) <<< (l3 &&& 31))), .int (l3 + 1)] _ _ _
        refine ev_goto (t := 4) zo_196_44 rfl ?_
        exact ih l0 l1 (l2 ||| ((0 : Int32) <<< (l3 &&& 31))) (l3 + 1) q3.2 r h
      rw [if_neg c7] at h
      refine ev_cmp_t (t := 36) zo_196_29 rfl (zcm_ne c7) ?_
      refine ev_iconst (x := 1) zo_196_36 (by decide) rfl ?_
      refine ev_iload_n zo_196_37 rfl rfl rfl ?_
      refine ev_ishl zo_196_38 rfl ?_
      refine ev_ior zo_196_39 rfl ?_
      refine ev_istore_n zo_196_40 rfl (zz_set rfl (by decide) (Nat.le_of_ble_eq_true rfl)) rfl ?_
      show zzEv _ _ _ [.ref l0, .int l1, .int (l2 ||| ((1 : Int32) <<< (l3 &&& 31))), .int l3] _ _ _
      refine ev_iinc (v := 1) zo_196_41 rfl (by decide) (zz_set rfl (by decide) (Nat.le_of_ble_eq_true rfl)) rfl ?_
      show zzEv _ _ _ [.ref l0, .int l1, .int (l2 ||| ((1 : Int32) <<< (l3 &&& 31))), .int (l3 + 1)] _ _ _
      refine ev_goto (t := 4) zo_196_44 rfl ?_
      exact ih l0 l1 (l2 ||| ((1 : Int32) <<< (l3 &&& 31))) (l3 + 1) q3.2 r h
    rw [if_neg c2] at h
    refine ev_cmp_t (t := 47) zo_196_9 rfl (zcm_ge c2) ?_
    refine ev_iload_n zo_196_47 rfl rfl rfl ?_
    cases h
    exact ev_retI zo_196_48 zr_196
def F_X7_unlike (x0 : Nat) (x1 : Int32) (J : zzJ) : Option (Int32 × zzJ) := F_X7_unlike_4 4096 x0 x1 (0 : Int32) (0 : Int32) J
set_option maxRecDepth 100000 in
set_option maxHeartbeats 2000000 in
theorem G_X7_unlike {d : Nat} (hd : 14 ≤ d) (x0 : Nat) (x1 : Int32) (J : zzJ) (r : Int32 × zzJ) (h : F_X7_unlike x0 x1 J = some r) : zzEv d 196 0 [.ref x0, .int x1, zzU, zzU] [] (zK J) (some (.int r.1), zK r.2) := by
  unfold F_X7_unlike at h
  refine ev_iconst (x := 0) zo_196_0 (by decide) rfl ?_
  refine ev_istore_n zo_196_1 rfl (zz_set rfl (by decide) (Nat.le_of_ble_eq_true rfl)) rfl ?_
  show zzEv _ _ _ [.ref x0, .int x1, .int (0 : Int32), zzU] _ _ _
  refine ev_iconst (x := 0) zo_196_2 (by decide) rfl ?_
  refine ev_istore_n zo_196_3 rfl (zz_set rfl (by decide) (Nat.le_of_ble_eq_true rfl)) rfl ?_
  show zzEv _ _ _ [.ref x0, .int x1, .int (0 : Int32), .int (0 : Int32)] _ _ _
  exact G_X7_unlike_4 hd 4096 x0 x1 (0 : Int32) (0 : Int32) J r h
/-! X7_seatsBy -/
def F_X7_seatsBy_59 (kl_13 : Nat → Int32 → Int32 → Int32 → Int32 → Int32 → zzJ → Option (Int32 × zzJ)) (l0 : Nat) (l1 : Int32) (l2 : Int32) (l3 : Int32) (l5 : Int32) (t0 : Int32) (t1 : Int32) (J : zzJ) : Option (Int32 × zzJ) := (if zKd l0 = 7 then (Option.bind (F_X7_seats l0 l2 l3 J) fun q2 => kl_13 l0 l1 l2 l3 (t1 ||| (t0 <<< (l5 &&& 31))) (l5 + 1) q2) else none)
set_option maxRecDepth 100000 in
set_option maxHeartbeats 2000000 in
theorem G_X7_seatsBy_59 {d : Nat} (kl_13 : Nat → Int32 → Int32 → Int32 → Int32 → Int32 → zzJ → Option (Int32 × zzJ)) (hkl_13 : ∀ (l0 : Nat) (l1 : Int32) (l2 : Int32) (l3 : Int32) (l4 : Int32) (l5 : Int32) (J : zzJ) (r : Int32 × zzJ), kl_13 l0 l1 l2 l3 l4 l5 J = some r → zzEv d 197 13 [.ref l0, .int l1, .int l2, .int l3, .int l4, .int l5] [] (zK J) (some (.int r.1), zK r.2)) (hd : 15 ≤ d) : ∀ (l0 : Nat) (l1 : Int32) (l2 : Int32) (l3 : Int32) (l5 : Int32) (t0 : Int32) (t1 : Int32) (J : zzJ) (r : Int32 × zzJ), F_X7_seatsBy_59 kl_13 l0 l1 l2 l3 l5 t0 t1 J = some r → ∀ (lv4 : Value) (hlv4 : lv4.category = 1), zzEv d 197 59 [.ref l0, .int l1, .int l2, .int l3, lv4, .int l5] [.int t0, .int t1] (zK J) (some (.int r.1), zK r.2) := by
  intro l0 l1 l2 l3 l5 t0 t1 J r h lv4 hlv4
  unfold F_X7_seatsBy_59 at h
  refine ev_iload zo_197_59 rfl rfl ?_
  refine ev_ishl zo_197_61 rfl ?_
  refine ev_ior zo_197_62 rfl ?_
  refine ev_istore zo_197_63 (zz_set rfl (by decide) (Nat.le_of_ble_eq_true rfl)) rfl ?_
  show zzEv _ _ _ [.ref l0, .int l1, .int l2, .int l3, .int (t1 ||| (t0 <<< (l5 &&& 31))), .int l5] _ _ _
  refine ev_aload_n zo_197_65 rfl rfl rfl rfl ?_
  refine ev_iload_n zo_197_66 rfl rfl rfl ?_
  refine ev_iload_n zo_197_67 rfl rfl rfl ?_
  obtain ⟨c1, h⟩ := zz_chk h
  obtain ⟨q2, hq2, h⟩ := zz_bd h
  refine ev_cV (as := [.int l3, .int l2]) (lsn := [.ref l0, .int l2, .int l3]) (by omega) zo_197_68 zl_197_129 (by rw [zm_146]; rfl) (by rw [zm_146]; exact c1) (by rw [zm_146]; decide) (by unfold zzIn; rw [zm_146]; rfl) (by rw [zm_146]; exact Nat.le_of_ble_eq_true rfl) (Nat.le_of_ble_eq_true rfl) (G_X7_seats (by omega) l0 l2 l3 J q2 hq2) rfl ?_
  show zzEv _ _ _ _ [] _ _
  refine ev_iinc (v := 1) zo_197_71 rfl (by decide) (zz_set rfl (by decide) (Nat.le_of_ble_eq_true rfl)) rfl ?_
  show zzEv _ _ _ [.ref l0, .int l1, .int l2, .int l3, .int (t1 ||| (t0 <<< (l5 &&& 31))), .int (l5 + 1)] _ _ _
  refine ev_goto (t := 13) zo_197_74 rfl ?_
  exact hkl_13 l0 l1 l2 l3 (t1 ||| (t0 <<< (l5 &&& 31))) (l5 + 1) q2 r h
def F_X7_seatsBy_37 (kl_13 : Nat → Int32 → Int32 → Int32 → Int32 → Int32 → zzJ → Option (Int32 × zzJ)) (l0 : Nat) (l1 : Int32) (l2 : Int32) (l3 : Int32) (l4 : Int32) (l5 : Int32) (J : zzJ) : Option (Int32 × zzJ) := (if zKd l0 = 7 then (Option.bind (F_X7_seats l0 l2 l5 J) fun q4 => (Option.bind (F_X7_unlike l0 l1 q4) fun q5 => (if q5.1 = (0 : Int32) then F_X7_seatsBy_59 kl_13 l0 l1 l2 l3 l5 (1 : Int32) l4 q5.2 else F_X7_seatsBy_59 kl_13 l0 l1 l2 l3 l5 (0 : Int32) l4 q5.2))) else none)
set_option maxRecDepth 100000 in
set_option maxHeartbeats 2000000 in
theorem G_X7_seatsBy_37 {d : Nat} (kl_13 : Nat → Int32 → Int32 → Int32 → Int32 → Int32 → zzJ → Option (Int32 × zzJ)) (hkl_13 : ∀ (l0 : Nat) (l1 : Int32) (l2 : Int32) (l3 : Int32) (l4 : Int32) (l5 : Int32) (J : zzJ) (r : Int32 × zzJ), kl_13 l0 l1 l2 l3 l4 l5 J = some r → zzEv d 197 13 [.ref l0, .int l1, .int l2, .int l3, .int l4, .int l5] [] (zK J) (some (.int r.1), zK r.2)) (hd : 15 ≤ d) : ∀ (l0 : Nat) (l1 : Int32) (l2 : Int32) (l3 : Int32) (l4 : Int32) (l5 : Int32) (J : zzJ) (r : Int32 × zzJ), F_X7_seatsBy_37 kl_13 l0 l1 l2 l3 l4 l5 J = some r → zzEv d 197 37 [.ref l0, .int l1, .int l2, .int l3, .int l4, .int l5] [] (zK J) (some (.int r.1), zK r.2) := by
  intro l0 l1 l2 l3 l4 l5 J r h
  unfold F_X7_seatsBy_37 at h
  refine ev_aload_n zo_197_37 rfl rfl rfl rfl ?_
  refine ev_iload_n zo_197_38 rfl rfl rfl ?_
  refine ev_iload zo_197_39 rfl rfl ?_
  obtain ⟨c3, h⟩ := zz_chk h
  obtain ⟨q4, hq4, h⟩ := zz_bd h
  refine ev_cV (as := [.int l5, .int l2]) (lsn := [.ref l0, .int l2, .int l5]) (by omega) zo_197_41 zl_197_129 (by rw [zm_146]; rfl) (by rw [zm_146]; exact c3) (by rw [zm_146]; decide) (by unfold zzIn; rw [zm_146]; rfl) (by rw [zm_146]; exact Nat.le_of_ble_eq_true rfl) (Nat.le_of_ble_eq_true rfl) (G_X7_seats (by omega) l0 l2 l5 J q4 hq4) rfl ?_
  show zzEv _ _ _ _ [] _ _
  refine ev_iload zo_197_44 rfl rfl ?_
  refine ev_aload_n zo_197_46 rfl rfl rfl rfl ?_
  refine ev_iload_n zo_197_47 rfl rfl rfl ?_
  obtain ⟨q5, hq5, h⟩ := zz_bd h
  refine ev_cV (as := [.int l1]) (lsn := [.ref l0, .int l1, zzU, zzU]) (by omega) zo_197_48 zl_197_346 (by rw [zm_196]; rfl) (by rw [zm_196]; exact c3) (by rw [zm_196]; decide) (by unfold zzIn; rw [zm_196]; rfl) (by rw [zm_196]; exact Nat.le_of_ble_eq_true rfl) (Nat.le_of_ble_eq_true rfl) (G_X7_unlike (by omega) l0 l1 q4 q5 hq5) rfl ?_
  show zzEv _ _ _ _ [.int q5.1, .int l4] _ _
  by_cases c6 : q5.1 = (0 : Int32)
  · rw [if_pos c6] at h
    refine ev_if_f (t := 58) zo_197_51 rfl (zcm_nne c6) rfl ?_
    refine ev_iconst (x := 1) zo_197_54 (by decide) rfl ?_
    refine ev_goto (t := 59) zo_197_55 rfl ?_
    exact G_X7_seatsBy_59 kl_13 hkl_13 hd l0 l1 l2 l3 l5 (1 : Int32) l4 q5.2 r h (.int l4) rfl
  rw [if_neg c6] at h
  refine ev_if_t (t := 58) zo_197_51 rfl (zcm_ne c6) ?_
  refine ev_iconst (x := 0) zo_197_58 (by decide) rfl ?_
  exact G_X7_seatsBy_59 kl_13 hkl_13 hd l0 l1 l2 l3 l5 (0 : Int32) l4 q5.2 r h (.int l4) rfl
def F_X7_seatsBy_13 : Nat → Nat → Int32 → Int32 → Int32 → Int32 → Int32 → zzJ → Option (Int32 × zzJ)
  | 0, _, _, _, _, _, _, _ => none
  | n + 1, l0, l1, l2, l3, l4, l5, J => (if l5 < (24 : Int32) then (if zKd l0 = 7 then (Option.bind (zMR l0 13) fun b9 => (if zKd b9 = 8 then (if zzIx l5 (zSz b9) then (if (J.2 b9 l5.toNatClampNeg) = (-1 : Int32) then F_X7_seatsBy_37 (F_X7_seatsBy_13 n) l0 l1 l2 l3 l4 l5 J else (if l5 = l3 then F_X7_seatsBy_37 (F_X7_seatsBy_13 n) l0 l1 l2 l3 l4 l5 J else F_X7_seatsBy_13 n l0 l1 l2 l3 l4 (l5 + 1) J)) else none) else none)) else none) else some (l4, J))
set_option maxRecDepth 100000 in
set_option maxHeartbeats 2000000 in
theorem G_X7_seatsBy_13 {d : Nat} (hd : 15 ≤ d) : ∀ (n : Nat) (l0 : Nat) (l1 : Int32) (l2 : Int32) (l3 : Int32) (l4 : Int32) (l5 : Int32) (J : zzJ) (r : Int32 × zzJ), F_X7_seatsBy_13 n l0 l1 l2 l3 l4 l5 J = some r → zzEv d 197 13 [.ref l0, .int l1, .int l2, .int l3, .int l4, .int l5] [] (zK J) (some (.int r.1), zK r.2) := by
  intro n
  induction n with
  | zero => intro l0 l1 l2 l3 l4 l5 J r h; simp [F_X7_seatsBy_13] at h
  | succ n ih =>
    intro l0 l1 l2 l3 l4 l5 J r h
    rw [F_X7_seatsBy_13] at h
    refine ev_iload zo_197_13 rfl rfl ?_
    refine ev_bipush (x := 24) zo_197_15 (by decide) rfl ?_
    by_cases c7 : l5 < (24 : Int32)
    · rw [if_pos c7] at h
      refine ev_cmp_f (t := 77) zo_197_17 rfl (zcm_nge c7) rfl ?_
      refine ev_aload_n zo_197_20 rfl rfl rfl rfl ?_
      obtain ⟨c8, h⟩ := zz_chk h
      obtain ⟨b9, eb9, h⟩ := zz_bd h
      refine ev_getR zo_197_21 zf_197_38 (by decide) rfl c8 eb9 rfl ?_
      refine ev_iload zo_197_24 rfl rfl ?_
      obtain ⟨c10, h⟩ := zz_chk h
      obtain ⟨c11, h⟩ := zz_chk h
      refine ev_iald zo_197_26 c10 c11 rfl ?_
      refine ev_iconst (x := (-1)) zo_197_27 (by decide) rfl ?_
      by_cases c12 : (J.2 b9 l5.toNatClampNeg) = (-1 : Int32)
      · rw [if_pos c12] at h
        refine ev_cmp_t (t := 37) zo_197_28 rfl (zcm_eq c12) ?_
        exact G_X7_seatsBy_37 (F_X7_seatsBy_13 n) ih hd l0 l1 l2 l3 l4 l5 J r h
      rw [if_neg c12] at h
      refine ev_cmp_f (t := 37) zo_197_28 rfl (zcm_neq c12) rfl ?_
      refine ev_iload zo_197_31 rfl rfl ?_
      refine ev_iload_n zo_197_33 rfl rfl rfl ?_
      by_cases c13 : l5 = l3
      · rw [if_pos c13] at h
        refine ev_cmp_f (t := 71) zo_197_34 rfl (zcm_nne c13) rfl ?_
        exact G_X7_seatsBy_37 (F_X7_seatsBy_13 n) ih hd l0 l1 l2 l3 l4 l5 J r h
      rw [if_neg c13] at h
      refine ev_cmp_t (t := 71) zo_197_34 rfl (zcm_ne c13) ?_
      refine ev_iinc (v := 1) zo_197_71 rfl (by decide) (zz_set rfl (by decide) (Nat.le_of_ble_eq_true rfl)) rfl ?_
      show zzEv _ _ _ [.ref l0, .int l1, .int l2, .int l3, .int l4, .int (l5 + 1)] _ _ _
      refine ev_goto (t := 13) zo_197_74 rfl ?_
      exact ih l0 l1 l2 l3 l4 (l5 + 1) J r h
    rw [if_neg c7] at h
    refine ev_cmp_t (t := 77) zo_197_17 rfl (zcm_ge c7) ?_
    refine ev_iload zo_197_77 rfl rfl ?_
    cases h
    exact ev_retI zo_197_79 zr_197
def F_X7_seatsBy (x0 : Nat) (x1 : Int32) (x2 : Int32) (J : zzJ) : Option (Int32 × zzJ) := (if zKd x0 = 7 then (Option.bind (zMR x0 12) fun b15 => (if zKd b15 = 8 then (if zzIx x2 (zSz b15) then F_X7_seatsBy_13 4096 x0 x1 x2 (J.2 b15 x2.toNatClampNeg) (0 : Int32) (0 : Int32) J else none) else none)) else none)
set_option maxRecDepth 100000 in
set_option maxHeartbeats 2000000 in
theorem G_X7_seatsBy {d : Nat} (hd : 15 ≤ d) (x0 : Nat) (x1 : Int32) (x2 : Int32) (J : zzJ) (r : Int32 × zzJ) (h : F_X7_seatsBy x0 x1 x2 J = some r) : zzEv d 197 0 [.ref x0, .int x1, .int x2, zzU, zzU, zzU] [] (zK J) (some (.int r.1), zK r.2) := by
  unfold F_X7_seatsBy at h
  refine ev_aload_n zo_197_0 rfl rfl rfl rfl ?_
  obtain ⟨c14, h⟩ := zz_chk h
  obtain ⟨b15, eb15, h⟩ := zz_bd h
  refine ev_getR zo_197_1 zf_197_35 (by decide) rfl c14 eb15 rfl ?_
  refine ev_iload_n zo_197_4 rfl rfl rfl ?_
  obtain ⟨c16, h⟩ := zz_chk h
  obtain ⟨c17, h⟩ := zz_chk h
  refine ev_iald zo_197_5 c16 c17 rfl ?_
  refine ev_istore_n zo_197_6 rfl (zz_set rfl (by decide) (Nat.le_of_ble_eq_true rfl)) rfl ?_
  show zzEv _ _ _ [.ref x0, .int x1, .int x2, .int (J.2 b15 x2.toNatClampNeg), zzU, zzU] _ _ _
  refine ev_iconst (x := 0) zo_197_7 (by decide) rfl ?_
  refine ev_istore zo_197_8 (zz_set rfl (by decide) (Nat.le_of_ble_eq_true rfl)) rfl ?_
  show zzEv _ _ _ [.ref x0, .int x1, .int x2, .int (J.2 b15 x2.toNatClampNeg), .int (0 : Int32), zzU] _ _ _
  refine ev_iconst (x := 0) zo_197_10 (by decide) rfl ?_
  refine ev_istore zo_197_11 (zz_set rfl (by decide) (Nat.le_of_ble_eq_true rfl)) rfl ?_
  show zzEv _ _ _ [.ref x0, .int x1, .int x2, .int (J.2 b15 x2.toNatClampNeg), .int (0 : Int32), .int (0 : Int32)] _ _ _
  exact G_X7_seatsBy_13 hd 4096 x0 x1 x2 (J.2 b15 x2.toNatClampNeg) (0 : Int32) (0 : Int32) J r h
/-! X7_tells -/
def F_X7_tells_261 (kl_223 : Nat → Int32 → Int32 → Int32 → Int32 → Int32 → Int32 → Int32 → Int32 → Int32 → zzJ → Option (Int32 × zzJ)) (l0 : Nat) (l1 : Int32) (l2 : Int32) (l4 : Int32) (l5 : Int32) (l6 : Int32) (l9 : Int32) (l11 : Int32) (t0 : Int32) (t1 : Int32) (J : zzJ) : Option (Int32 × zzJ) := kl_223 l0 l1 l2 l4 l5 l6 (t1 ||| t0) (l9 + 1) l11 (l11 + (-1)) J
set_option maxRecDepth 100000 in
set_option maxHeartbeats 2000000 in
theorem G_X7_tells_261 {d : Nat} (kl_223 : Nat → Int32 → Int32 → Int32 → Int32 → Int32 → Int32 → Int32 → Int32 → Int32 → zzJ → Option (Int32 × zzJ)) (hkl_223 : ∀ (l0 : Nat) (l1 : Int32) (l2 : Int32) (l4 : Int32) (l5 : Int32) (l6 : Int32) (l8 : Int32) (l9 : Int32) (l10 : Int32) (l11 : Int32) (J : zzJ) (r : Int32 × zzJ), kl_223 l0 l1 l2 l4 l5 l6 l8 l9 l10 l11 J = some r → ∀ (lv3 : Value) (hlv3 : lv3.category = 1), ∀ (lv7 : Value) (hlv7 : lv7.category = 1), zzEv d 198 223 [.ref l0, .int l1, .int l2, lv3, .int l4, .int l5, .int l6, lv7, .int l8, .int l9, .int l10, .int l11] [] (zK J) (some (.int r.1), zK r.2)) (hd : 16 ≤ d) : ∀ (l0 : Nat) (l1 : Int32) (l2 : Int32) (l4 : Int32) (l5 : Int32) (l6 : Int32) (l9 : Int32) (l11 : Int32) (t0 : Int32) (t1 : Int32) (J : zzJ) (r : Int32 × zzJ), F_X7_tells_261 kl_223 l0 l1 l2 l4 l5 l6 l9 l11 t0 t1 J = some r → ∀ (lv3 : Value) (hlv3 : lv3.category = 1), ∀ (lv7 : Value) (hlv7 : lv7.category = 1), ∀ (lv8 : Value) (hlv8 : lv8.category = 1), ∀ (lv10 : Value) (hlv10 : lv10.category = 1), zzEv d 198 261 [.ref l0, .int l1, .int l2, lv3, .int l4, .int l5, .int l6, lv7, lv8, .int l9, lv10, .int l11] [.int t0, .int t1] (zK J) (some (.int r.1), zK r.2) := by
  intro l0 l1 l2 l4 l5 l6 l9 l11 t0 t1 J r h lv3 hlv3 lv7 hlv7 lv8 hlv8 lv10 hlv10
  unfold F_X7_tells_261 at h
  refine ev_ior zo_198_261 rfl ?_
  refine ev_istore zo_198_262 (zz_set (zz_lg (j := 7) rfl hlv7) (by decide) (Nat.le_of_ble_eq_true rfl)) rfl ?_
  show zzEv _ _ _ [.ref l0, .int l1, .int l2, lv3, .int l4, .int l5, .int l6, lv7, .int (t1 ||| t0), .int l9, lv10, .int l11] _ _ _
  refine ev_iinc (v := 1) zo_198_264 rfl (by decide) (zz_set rfl (by decide) (Nat.le_of_ble_eq_true rfl)) rfl ?_
  show zzEv _ _ _ [.ref l0, .int l1, .int l2, lv3, .int l4, .int l5, .int l6, lv7, .int (t1 ||| t0), .int (l9 + 1), lv10, .int l11] _ _ _
  refine ev_iload zo_198_267 rfl rfl ?_
  refine ev_istore zo_198_269 (zz_set rfl (by decide) (Nat.le_of_ble_eq_true rfl)) rfl ?_
  show zzEv _ _ _ [.ref l0, .int l1, .int l2, lv3, .int l4, .int l5, .int l6, lv7, .int (t1 ||| t0), .int (l9 + 1), .int l11, .int l11] _ _ _
  refine ev_iinc (v := (-1)) zo_198_271 rfl (by decide) (zz_set rfl (by decide) (Nat.le_of_ble_eq_true rfl)) rfl ?_
  show zzEv _ _ _ [.ref l0, .int l1, .int l2, lv3, .int l4, .int l5, .int l6, lv7, .int (t1 ||| t0), .int (l9 + 1), .int l11, .int (l11 + (-1))] _ _ _
  refine ev_goto (t := 223) zo_198_274 rfl ?_
  exact hkl_223 l0 l1 l2 l4 l5 l6 (t1 ||| t0) (l9 + 1) l11 (l11 + (-1)) J r h (lv3) hlv3 (lv7) hlv7
def F_X7_tells_223 : Nat → Nat → Int32 → Int32 → Int32 → Int32 → Int32 → Int32 → Int32 → Int32 → Int32 → zzJ → Option (Int32 × zzJ)
  | 0, _, _, _, _, _, _, _, _, _, _, _ => none
  | n + 1, l0, l1, l2, l4, l5, l6, l8, l9, l10, l11, J => (if l11 < (0 : Int32) then (if zKd l0 = 7 then (Option.bind (F_X7_lays l0 l5 l4 l6 J) fun q3 => (if l2 = (2 : Int32) then some (l9, q3) else (if l2 = (3 : Int32) then some (l10, q3) else some (l8, q3)))) else none) else (if zKd l0 = 7 then (Option.bind (F_X7_lays l0 l5 l4 l11 J) fun q7 => (Option.bind (F_X7_unlike l0 l1 q7) fun q8 => (if q8.1 = (0 : Int32) then (if l5 = (0 : Int32) then F_X7_tells_261 (F_X7_tells_223 n) l0 l1 l2 l4 l5 l6 l9 l11 (0 : Int32) l8 q8.2 else F_X7_tells_261 (F_X7_tells_223 n) l0 l1 l2 l4 l5 l6 l9 l11 ((1 : Int32) <<< (l11 &&& 31)) l8 q8.2) else F_X7_tells_223 n l0 l1 l2 l4 l5 l6 l8 l9 l10 (l11 + (-1)) q8.2))) else none))
set_option maxRecDepth 100000 in
set_option maxHeartbeats 2000000 in
theorem G_X7_tells_223 {d : Nat} (hd : 16 ≤ d) : ∀ (n : Nat) (l0 : Nat) (l1 : Int32) (l2 : Int32) (l4 : Int32) (l5 : Int32) (l6 : Int32) (l8 : Int32) (l9 : Int32) (l10 : Int32) (l11 : Int32) (J : zzJ) (r : Int32 × zzJ), F_X7_tells_223 n l0 l1 l2 l4 l5 l6 l8 l9 l10 l11 J = some r → ∀ (lv3 : Value) (hlv3 : lv3.category = 1), ∀ (lv7 : Value) (hlv7 : lv7.category = 1), zzEv d 198 223 [.ref l0, .int l1, .int l2, lv3, .int l4, .int l5, .int l6, lv7, .int l8, .int l9, .int l10, .int l11] [] (zK J) (some (.int r.1), zK r.2) := by
  intro n
  induction n with
  | zero => intro l0 l1 l2 l4 l5 l6 l8 l9 l10 l11 J r h; simp [F_X7_tells_223] at h
  | succ n ih =>
    intro l0 l1 l2 l4 l5 l6 l8 l9 l10 l11 J r h lv3 hlv3 lv7 hlv7
    rw [F_X7_tells_223] at h
    refine ev_iload zo_198_223 rfl rfl ?_
    by_cases c1 : l11 < (0 : Int32)
    · rw [if_pos c1] at h
      refine ev_if_t (t := 277) zo_198_225 rfl (zcm_lt c1) ?_
      refine ev_aload_n zo_198_277 rfl rfl rfl rfl ?_
      refine ev_iload zo_198_278 rfl rfl ?_
      refine ev_iload zo_198_280 rfl rfl ?_
      refine ev_iload zo_198_282 rfl rfl ?_
      obtain ⟨c2, h⟩ := zz_chk h
      obtain ⟨q3, hq3, h⟩ := zz_bd h
      refine ev_cV (as := [.int l6, .int l4, .int l5]) (lsn := [.ref l0, .int l5, .int l4, .int l6]) (by omega) zo_198_284 zl_198_114 (by rw [zm_144]; rfl) (by rw [zm_144]; exact c2) (by rw [zm_144]; decide) (by unfold zzIn; rw [zm_144]; rfl) (by rw [zm_144]; exact Nat.le_of_ble_eq_true rfl) (Nat.le_of_ble_eq_true rfl) (G_X7_lays (by omega) l0 l5 l4 l6 J q3 hq3) rfl ?_
      show zzEv _ _ _ _ [] _ _
      refine ev_iload_n zo_198_287 rfl rfl rfl ?_
      refine ev_iconst (x := 2) zo_198_288 (by decide) rfl ?_
      by_cases c4 : l2 = (2 : Int32)
      · rw [if_pos c4] at h
        refine ev_cmp_f (t := 297) zo_198_289 rfl (zcm_nne c4) rfl ?_
        refine ev_iload zo_198_292 rfl rfl ?_
        refine ev_goto (t := 309) zo_198_294 rfl ?_
        cases h
        exact ev_retI zo_198_309 zr_198
      rw [if_neg c4] at h
      refine ev_cmp_t (t := 297) zo_198_289 rfl (zcm_ne c4) ?_
      refine ev_iload_n zo_198_297 rfl rfl rfl ?_
      refine ev_iconst (x := 3) zo_198_298 (by decide) rfl ?_
      by_cases c5 : l2 = (3 : Int32)
      · rw [if_pos c5] at h
        refine ev_cmp_f (t := 307) zo_198_299 rfl (zcm_nne c5) rfl ?_
        refine ev_iload zo_198_302 rfl rfl ?_
        refine ev_goto (t := 309) zo_198_304 rfl ?_
        cases h
        exact ev_retI zo_198_309 zr_198
      rw [if_neg c5] at h
      refine ev_cmp_t (t := 307) zo_198_299 rfl (zcm_ne c5) ?_
      refine ev_iload zo_198_307 rfl rfl ?_
      cases h
      exact ev_retI zo_198_309 zr_198
    rw [if_neg c1] at h
    refine ev_if_f (t := 277) zo_198_225 rfl (zcm_nlt c1) rfl ?_
    refine ev_aload_n zo_198_228 rfl rfl rfl rfl ?_
    refine ev_iload zo_198_229 rfl rfl ?_
    refine ev_iload zo_198_231 rfl rfl ?_
    refine ev_iload zo_198_233 rfl rfl ?_
    obtain ⟨c6, h⟩ := zz_chk h
    obtain ⟨q7, hq7, h⟩ := zz_bd h
    refine ev_cV (as := [.int l11, .int l4, .int l5]) (lsn := [.ref l0, .int l5, .int l4, .int l11]) (by omega) zo_198_235 zl_198_114 (by rw [zm_144]; rfl) (by rw [zm_144]; exact c6) (by rw [zm_144]; decide) (by unfold zzIn; rw [zm_144]; rfl) (by rw [zm_144]; exact Nat.le_of_ble_eq_true rfl) (Nat.le_of_ble_eq_true rfl) (G_X7_lays (by omega) l0 l5 l4 l11 J q7 hq7) rfl ?_
    show zzEv _ _ _ _ [] _ _
    refine ev_aload_n zo_198_238 rfl rfl rfl rfl ?_
    refine ev_iload_n zo_198_239 rfl rfl rfl ?_
    obtain ⟨q8, hq8, h⟩ := zz_bd h
    refine ev_cV (as := [.int l1]) (lsn := [.ref l0, .int l1, zzU, zzU]) (by omega) zo_198_240 zl_198_346 (by rw [zm_196]; rfl) (by rw [zm_196]; exact c6) (by rw [zm_196]; decide) (by unfold zzIn; rw [zm_196]; rfl) (by rw [zm_196]; exact Nat.le_of_ble_eq_true rfl) (Nat.le_of_ble_eq_true rfl) (G_X7_unlike (by omega) l0 l1 q7 q8 hq8) rfl ?_
    show zzEv _ _ _ _ [.int q8.1] _ _
    by_cases c9 : q8.1 = (0 : Int32)
    · rw [if_pos c9] at h
      refine ev_if_f (t := 271) zo_198_243 rfl (zcm_nne c9) rfl ?_
      refine ev_iload zo_198_246 rfl rfl ?_
      refine ev_iload zo_198_248 rfl rfl ?_
      by_cases c10 : l5 = (0 : Int32)
      · rw [if_pos c10] at h
        refine ev_if_f (t := 257) zo_198_250 rfl (zcm_nne c10) rfl ?_
        refine ev_iconst (x := 0) zo_198_253 (by decide) rfl ?_
        refine ev_goto (t := 261) zo_198_254 rfl ?_
        exact G_X7_tells_261 (F_X7_tells_223 n) ih hd l0 l1 l2 l4 l5 l6 l9 l11 (0 : Int32) l8 q8.2 r h (lv3) hlv3 (lv7) hlv7 (.int l8) rfl (.int l10) rfl
      rw [if_neg c10] at h
      refine ev_if_t (t := 257) zo_198_250 rfl (zcm_ne c10) ?_
      refine ev_iconst (x := 1) zo_198_257 (by decide) rfl ?_
      refine ev_iload zo_198_258 rfl rfl ?_
      refine ev_ishl zo_198_260 rfl ?_
      exact G_X7_tells_261 (F_X7_tells_223 n) ih hd l0 l1 l2 l4 l5 l6 l9 l11 ((1 : Int32) <<< (l11 &&& 31)) l8 q8.2 r h (lv3) hlv3 (lv7) hlv7 (.int l8) rfl (.int l10) rfl
    rw [if_neg c9] at h
    refine ev_if_t (t := 271) zo_198_243 rfl (zcm_ne c9) ?_
    refine ev_iinc (v := (-1)) zo_198_271 rfl (by decide) (zz_set rfl (by decide) (Nat.le_of_ble_eq_true rfl)) rfl ?_
    show zzEv _ _ _ [.ref l0, .int l1, .int l2, lv3, .int l4, .int l5, .int l6, lv7, .int l8, .int l9, .int l10, .int (l11 + (-1))] _ _ _
    refine ev_goto (t := 223) zo_198_274 rfl ?_
    exact ih l0 l1 l2 l4 l5 l6 l8 l9 l10 (l11 + (-1)) q8.2 r h (lv3) hlv3 (lv7) hlv7
def F_X7_tells_208 (l0 : Nat) (l1 : Int32) (l2 : Int32) (l4 : Int32) (l5 : Int32) (l6 : Int32) (t0 : Int32) (J : zzJ) : Option (Int32 × zzJ) := F_X7_tells_223 4096 l0 l1 l2 l4 l5 l6 (0 : Int32) (0 : Int32) (-1 : Int32) t0 J
set_option maxRecDepth 100000 in
set_option maxHeartbeats 2000000 in
theorem G_X7_tells_208 {d : Nat} (hd : 16 ≤ d) : ∀ (l0 : Nat) (l1 : Int32) (l2 : Int32) (l4 : Int32) (l5 : Int32) (l6 : Int32) (t0 : Int32) (J : zzJ) (r : Int32 × zzJ), F_X7_tells_208 l0 l1 l2 l4 l5 l6 t0 J = some r → ∀ (lv3 : Value) (hlv3 : lv3.category = 1), zzEv d 198 208 [.ref l0, .int l1, .int l2, lv3, .int l4, .int l5, .int l6, zzU, zzU, zzU, zzU, zzU] [.int t0] (zK J) (some (.int r.1), zK r.2) := by
  intro l0 l1 l2 l4 l5 l6 t0 J r h lv3 hlv3
  unfold F_X7_tells_208 at h
  refine ev_istore zo_198_208 (zz_set rfl (by decide) (Nat.le_of_ble_eq_true rfl)) rfl ?_
  show zzEv _ _ _ [.ref l0, .int l1, .int l2, lv3, .int l4, .int l5, .int l6, .int t0, zzU, zzU, zzU, zzU] _ _ _
  refine ev_iconst (x := 0) zo_198_210 (by decide) rfl ?_
  refine ev_istore zo_198_211 (zz_set rfl (by decide) (Nat.le_of_ble_eq_true rfl)) rfl ?_
  show zzEv _ _ _ [.ref l0, .int l1, .int l2, lv3, .int l4, .int l5, .int l6, .int t0, .int (0 : Int32), zzU, zzU, zzU] _ _ _
  refine ev_iconst (x := 0) zo_198_213 (by decide) rfl ?_
  refine ev_istore zo_198_214 (zz_set rfl (by decide) (Nat.le_of_ble_eq_true rfl)) rfl ?_
  show zzEv _ _ _ [.ref l0, .int l1, .int l2, lv3, .int l4, .int l5, .int l6, .int t0, .int (0 : Int32), .int (0 : Int32), zzU, zzU] _ _ _
  refine ev_iconst (x := (-1)) zo_198_216 (by decide) rfl ?_
  refine ev_istore zo_198_217 (zz_set rfl (by decide) (Nat.le_of_ble_eq_true rfl)) rfl ?_
  show zzEv _ _ _ [.ref l0, .int l1, .int l2, lv3, .int l4, .int l5, .int l6, .int t0, .int (0 : Int32), .int (0 : Int32), .int (-1 : Int32), zzU] _ _ _
  refine ev_iload zo_198_219 rfl rfl ?_
  refine ev_istore zo_198_221 (zz_set rfl (by decide) (Nat.le_of_ble_eq_true rfl)) rfl ?_
  show zzEv _ _ _ [.ref l0, .int l1, .int l2, lv3, .int l4, .int l5, .int l6, .int t0, .int (0 : Int32), .int (0 : Int32), .int (-1 : Int32), .int t0] _ _ _
  exact G_X7_tells_223 hd 4096 l0 l1 l2 l4 l5 l6 (0 : Int32) (0 : Int32) (-1 : Int32) t0 J r h (lv3) hlv3 (.int t0) rfl
def F_X7_tells_169 (l0 : Nat) (l1 : Int32) (l2 : Int32) (l4 : Int32) (l5 : Int32) (t0 : Int32) (J : zzJ) : Option (Int32 × zzJ) := (if l5 = (5 : Int32) then (if zKd l0 = 7 then F_X7_tells_208 l0 l1 l2 l4 l5 t0 ((J.2 l0 3) - (1 : Int32)) J else none) else (if l5 = (0 : Int32) then F_X7_tells_208 l0 l1 l2 l4 l5 t0 (99 : Int32) J else (if l5 = (4 : Int32) then F_X7_tells_208 l0 l1 l2 l4 l5 t0 (5 : Int32) J else F_X7_tells_208 l0 l1 l2 l4 l5 t0 (9 : Int32) J)))
set_option maxRecDepth 100000 in
set_option maxHeartbeats 2000000 in
theorem G_X7_tells_169 {d : Nat} (hd : 16 ≤ d) : ∀ (l0 : Nat) (l1 : Int32) (l2 : Int32) (l4 : Int32) (l5 : Int32) (t0 : Int32) (J : zzJ) (r : Int32 × zzJ), F_X7_tells_169 l0 l1 l2 l4 l5 t0 J = some r → ∀ (lv3 : Value) (hlv3 : lv3.category = 1), zzEv d 198 169 [.ref l0, .int l1, .int l2, lv3, .int l4, .int l5, zzU, zzU, zzU, zzU, zzU, zzU] [.int t0] (zK J) (some (.int r.1), zK r.2) := by
  intro l0 l1 l2 l4 l5 t0 J r h lv3 hlv3
  unfold F_X7_tells_169 at h
  refine ev_istore zo_198_169 (zz_set rfl (by decide) (Nat.le_of_ble_eq_true rfl)) rfl ?_
  show zzEv _ _ _ [.ref l0, .int l1, .int l2, lv3, .int l4, .int l5, .int t0, zzU, zzU, zzU, zzU, zzU] _ _ _
  refine ev_iload zo_198_171 rfl rfl ?_
  refine ev_iconst (x := 5) zo_198_173 (by decide) rfl ?_
  by_cases c11 : l5 = (5 : Int32)
  · rw [if_pos c11] at h
    refine ev_cmp_f (t := 186) zo_198_174 rfl (zcm_nne c11) rfl ?_
    refine ev_aload_n zo_198_177 rfl rfl rfl rfl ?_
    obtain ⟨c14, h⟩ := zz_chk h
    refine ev_getI zo_198_178 zf_198_82 (by decide) (Or.inl rfl) c14 rfl ?_
    refine ev_iconst (x := 1) zo_198_181 (by decide) rfl ?_
    refine ev_isub zo_198_182 rfl ?_
    refine ev_goto (t := 208) zo_198_183 rfl ?_
    exact G_X7_tells_208 hd l0 l1 l2 l4 l5 t0 ((J.2 l0 3) - (1 : Int32)) J r h (lv3) hlv3
  rw [if_neg c11] at h
  refine ev_cmp_t (t := 186) zo_198_174 rfl (zcm_ne c11) ?_
  refine ev_iload zo_198_186 rfl rfl ?_
  by_cases c12 : l5 = (0 : Int32)
  · rw [if_pos c12] at h
    refine ev_if_f (t := 196) zo_198_188 rfl (zcm_nne c12) rfl ?_
    refine ev_bipush (x := 99) zo_198_191 (by decide) rfl ?_
    refine ev_goto (t := 208) zo_198_193 rfl ?_
    exact G_X7_tells_208 hd l0 l1 l2 l4 l5 t0 (99 : Int32) J r h (lv3) hlv3
  rw [if_neg c12] at h
  refine ev_if_t (t := 196) zo_198_188 rfl (zcm_ne c12) ?_
  refine ev_iload zo_198_196 rfl rfl ?_
  refine ev_iconst (x := 4) zo_198_198 (by decide) rfl ?_
  by_cases c13 : l5 = (4 : Int32)
  · rw [if_pos c13] at h
    refine ev_cmp_f (t := 206) zo_198_199 rfl (zcm_nne c13) rfl ?_
    refine ev_iconst (x := 5) zo_198_202 (by decide) rfl ?_
    refine ev_goto (t := 208) zo_198_203 rfl ?_
    exact G_X7_tells_208 hd l0 l1 l2 l4 l5 t0 (5 : Int32) J r h (lv3) hlv3
  rw [if_neg c13] at h
  refine ev_cmp_t (t := 206) zo_198_199 rfl (zcm_ne c13) ?_
  refine ev_bipush (x := 9) zo_198_206 (by decide) rfl ?_
  exact G_X7_tells_208 hd l0 l1 l2 l4 l5 t0 (9 : Int32) J r h (lv3) hlv3
def F_X7_tells_146 (l0 : Nat) (l1 : Int32) (l2 : Int32) (l4 : Int32) (t0 : Int32) (J : zzJ) : Option (Int32 × zzJ) := (if t0 = (5 : Int32) then (if zKd l0 = 7 then F_X7_tells_169 l0 l1 l2 l4 t0 (J.2 l0 4) J else none) else (if zKd l0 = 7 then (Option.bind (F_X7_told l0 l4 t0 J) fun q17 => F_X7_tells_169 l0 l1 l2 l4 t0 q17.1 q17.2) else none))
set_option maxRecDepth 100000 in
set_option maxHeartbeats 2000000 in
theorem G_X7_tells_146 {d : Nat} (hd : 16 ≤ d) : ∀ (l0 : Nat) (l1 : Int32) (l2 : Int32) (l4 : Int32) (t0 : Int32) (J : zzJ) (r : Int32 × zzJ), F_X7_tells_146 l0 l1 l2 l4 t0 J = some r → ∀ (lv3 : Value) (hlv3 : lv3.category = 1), zzEv d 198 146 [.ref l0, .int l1, .int l2, lv3, .int l4, zzU, zzU, zzU, zzU, zzU, zzU, zzU] [.int t0] (zK J) (some (.int r.1), zK r.2) := by
  intro l0 l1 l2 l4 t0 J r h lv3 hlv3
  unfold F_X7_tells_146 at h
  refine ev_istore zo_198_146 (zz_set rfl (by decide) (Nat.le_of_ble_eq_true rfl)) rfl ?_
  show zzEv _ _ _ [.ref l0, .int l1, .int l2, lv3, .int l4, .int t0, zzU, zzU, zzU, zzU, zzU, zzU] _ _ _
  refine ev_iload zo_198_148 rfl rfl ?_
  refine ev_iconst (x := 5) zo_198_150 (by decide) rfl ?_
  by_cases c15 : t0 = (5 : Int32)
  · rw [if_pos c15] at h
    refine ev_cmp_f (t := 161) zo_198_151 rfl (zcm_nne c15) rfl ?_
    refine ev_aload_n zo_198_154 rfl rfl rfl rfl ?_
    obtain ⟨c18, h⟩ := zz_chk h
    refine ev_getI zo_198_155 zf_198_121 (by decide) (Or.inl rfl) c18 rfl ?_
    refine ev_goto (t := 169) zo_198_158 rfl ?_
    exact G_X7_tells_169 hd l0 l1 l2 l4 t0 (J.2 l0 4) J r h (lv3) hlv3
  rw [if_neg c15] at h
  refine ev_cmp_t (t := 161) zo_198_151 rfl (zcm_ne c15) ?_
  refine ev_aload_n zo_198_161 rfl rfl rfl rfl ?_
  refine ev_iload zo_198_162 rfl rfl ?_
  refine ev_iload zo_198_164 rfl rfl ?_
  obtain ⟨c16, h⟩ := zz_chk h
  obtain ⟨q17, hq17, h⟩ := zz_bd h
  refine ev_cV (as := [.int t0, .int l4]) (lsn := [.ref l0, .int l4, .int t0]) (by omega) zo_198_166 zl_198_110 (by rw [zm_148]; rfl) (by rw [zm_148]; exact c16) (by rw [zm_148]; decide) (by unfold zzIn; rw [zm_148]; rfl) (by rw [zm_148]; exact Nat.le_of_ble_eq_true rfl) (Nat.le_of_ble_eq_true rfl) (G_X7_told (by omega) l0 l4 t0 J q17 hq17) rfl ?_
  show zzEv _ _ _ _ [.int q17.1] _ _
  exact G_X7_tells_169 hd l0 l1 l2 l4 t0 q17.1 q17.2 r h (lv3) hlv3
def F_X7_tells_57 (l0 : Nat) (l1 : Int32) (l2 : Int32) (J : zzJ) : Option (Int32 × zzJ) := (if zKd l0 = 7 then (Option.bind (zMR l0 48) fun b20 => (if zKd b20 = 9 then (if zzIx l1 (zSz b20) then (if (J.2 b20 l1.toNatClampNeg) = (0 : Int32) then some ((-11 : Int32), J) else (Option.bind (zMR l0 50) fun b24 => (if zKd b24 = 8 then (if zzIx l1 (zSz b24) then (if (J.2 b24 l1.toNatClampNeg) = (J.2 l0 14) then (if l2 = (0 : Int32) then (Option.bind (F_X7_unlike l0 l1 J) fun q34 => some (q34.1, q34.2)) else (if (29 : Int32) < l2 then (Option.bind (F_X7_seatsBy l0 l1 (l2 - (30 : Int32)) J) fun q33 => some (q33.1, q33.2)) else (if l2 = (1 : Int32) then F_X7_tells_146 l0 l1 l2 (zRem l2 (10 : Int32)) (5 : Int32) J else (if l2 < (4 : Int32) then F_X7_tells_146 l0 l1 l2 (zRem l2 (10 : Int32)) (0 : Int32) J else (if l2 < (20 : Int32) then F_X7_tells_146 l0 l1 l2 (zRem l2 (10 : Int32)) (4 : Int32) J else F_X7_tells_146 l0 l1 l2 (zRem l2 (10 : Int32)) (2 : Int32) J))))) else some ((-2 : Int32), J)) else none) else none))) else none) else none)) else none)
set_option maxRecDepth 100000 in
set_option maxHeartbeats 2000000 in
theorem G_X7_tells_57 {d : Nat} (hd : 16 ≤ d) : ∀ (l0 : Nat) (l1 : Int32) (l2 : Int32) (J : zzJ) (r : Int32 × zzJ), F_X7_tells_57 l0 l1 l2 J = some r → ∀ (lv3 : Value) (hlv3 : lv3.category = 1), zzEv d 198 57 [.ref l0, .int l1, .int l2, lv3, zzU, zzU, zzU, zzU, zzU, zzU, zzU, zzU] [] (zK J) (some (.int r.1), zK r.2) := by
  intro l0 l1 l2 J r h lv3 hlv3
  unfold F_X7_tells_57 at h
  refine ev_aload_n zo_198_57 rfl rfl rfl rfl ?_
  obtain ⟨c19, h⟩ := zz_chk h
  obtain ⟨b20, eb20, h⟩ := zz_bd h
  refine ev_getR zo_198_58 zf_198_65 (by decide) rfl c19 eb20 rfl ?_
  refine ev_iload_n zo_198_61 rfl rfl rfl ?_
  obtain ⟨c21, h⟩ := zz_chk h
  obtain ⟨c22, h⟩ := zz_chk h
  refine ev_bald zo_198_62 c21 c22 rfl ?_
  by_cases c23 : (J.2 b20 l1.toNatClampNeg) = (0 : Int32)
  · rw [if_pos c23] at h
    refine ev_if_f (t := 69) zo_198_63 rfl (zcm_nne c23) rfl ?_
    refine ev_bipush (x := (-11)) zo_198_66 (by decide) rfl ?_
    cases h
    exact ev_retI zo_198_68 zr_198
  rw [if_neg c23] at h
  refine ev_if_t (t := 69) zo_198_63 rfl (zcm_ne c23) ?_
  refine ev_aload_n zo_198_69 rfl rfl rfl rfl ?_
  obtain ⟨b24, eb24, h⟩ := zz_bd h
  refine ev_getR zo_198_70 zf_198_72 (by decide) rfl c19 eb24 rfl ?_
  refine ev_iload_n zo_198_73 rfl rfl rfl ?_
  obtain ⟨c25, h⟩ := zz_chk h
  obtain ⟨c26, h⟩ := zz_chk h
  refine ev_iald zo_198_74 c25 c26 rfl ?_
  refine ev_aload_n zo_198_75 rfl rfl rfl rfl ?_
  refine ev_getI zo_198_76 zf_198_85 (by decide) (Or.inl rfl) c19 rfl ?_
  by_cases c27 : (J.2 b24 l1.toNatClampNeg) = (J.2 l0 14)
  · rw [if_pos c27] at h
    refine ev_cmp_t (t := 85) zo_198_79 rfl (zcm_eq c27) ?_
    refine ev_iload_n zo_198_85 rfl rfl rfl ?_
    by_cases c28 : l2 = (0 : Int32)
    · rw [if_pos c28] at h
      refine ev_if_f (t := 95) zo_198_86 rfl (zcm_nne c28) rfl ?_
      refine ev_aload_n zo_198_89 rfl rfl rfl rfl ?_
      refine ev_iload_n zo_198_90 rfl rfl rfl ?_
      obtain ⟨q34, hq34, h⟩ := zz_bd h
      refine ev_cV (as := [.int l1]) (lsn := [.ref l0, .int l1, zzU, zzU]) (by omega) zo_198_91 zl_198_346 (by rw [zm_196]; rfl) (by rw [zm_196]; exact c19) (by rw [zm_196]; decide) (by unfold zzIn; rw [zm_196]; rfl) (by rw [zm_196]; exact Nat.le_of_ble_eq_true rfl) (Nat.le_of_ble_eq_true rfl) (G_X7_unlike (by omega) l0 l1 J q34 hq34) rfl ?_
      show zzEv _ _ _ _ [.int q34.1] _ _
      cases h
      exact ev_retI zo_198_94 zr_198
    rw [if_neg c28] at h
    refine ev_if_t (t := 95) zo_198_86 rfl (zcm_ne c28) ?_
    refine ev_iload_n zo_198_95 rfl rfl rfl ?_
    refine ev_bipush (x := 29) zo_198_96 (by decide) rfl ?_
    by_cases c29 : (29 : Int32) < l2
    · rw [if_pos c29] at h
      refine ev_cmp_f (t := 111) zo_198_98 rfl (zcm_nle c29) rfl ?_
      refine ev_aload_n zo_198_101 rfl rfl rfl rfl ?_
      refine ev_iload_n zo_198_102 rfl rfl rfl ?_
      refine ev_iload_n zo_198_103 rfl rfl rfl ?_
      refine ev_bipush (x := 30) zo_198_104 (by decide) rfl ?_
      refine ev_isub zo_198_106 rfl ?_
      obtain ⟨q33, hq33, h⟩ := zz_bd h
      refine ev_cV (as := [.int (l2 - (30 : Int32)), .int l1]) (lsn := [.ref l0, .int l1, .int (l2 - (30 : Int32)), zzU, zzU, zzU]) (by omega) zo_198_107 zl_198_351 (by rw [zm_197]; rfl) (by rw [zm_197]; exact c19) (by rw [zm_197]; decide) (by unfold zzIn; rw [zm_197]; rfl) (by rw [zm_197]; exact Nat.le_of_ble_eq_true rfl) (Nat.le_of_ble_eq_true rfl) (G_X7_seatsBy (by omega) l0 l1 (l2 - (30 : Int32)) J q33 hq33) rfl ?_
      show zzEv _ _ _ _ [.int q33.1] _ _
      cases h
      exact ev_retI zo_198_110 zr_198
    rw [if_neg c29] at h
    refine ev_cmp_t (t := 111) zo_198_98 rfl (zcm_le c29) ?_
    refine ev_iload_n zo_198_111 rfl rfl rfl ?_
    refine ev_bipush (x := 10) zo_198_112 (by decide) rfl ?_
    refine ev_irem zo_198_114 (by decide) rfl ?_
    refine ev_istore zo_198_115 (zz_set (zz_lg (j := 3) rfl hlv3) (by decide) (Nat.le_of_ble_eq_true rfl)) rfl ?_
    show zzEv _ _ _ [.ref l0, .int l1, .int l2, lv3, .int (zRem l2 (10 : Int32)), zzU, zzU, zzU, zzU, zzU, zzU, zzU] _ _ _
    refine ev_iload_n zo_198_117 rfl rfl rfl ?_
    refine ev_iconst (x := 1) zo_198_118 (by decide) rfl ?_
    by_cases c30 : l2 = (1 : Int32)
    · rw [if_pos c30] at h
      refine ev_cmp_f (t := 126) zo_198_119 rfl (zcm_nne c30) rfl ?_
      refine ev_iconst (x := 5) zo_198_122 (by decide) rfl ?_
      refine ev_goto (t := 146) zo_198_123 rfl ?_
      exact G_X7_tells_146 hd l0 l1 l2 (zRem l2 (10 : Int32)) (5 : Int32) J r h (lv3) hlv3
    rw [if_neg c30] at h
    refine ev_cmp_t (t := 126) zo_198_119 rfl (zcm_ne c30) ?_
    refine ev_iload_n zo_198_126 rfl rfl rfl ?_
    refine ev_iconst (x := 4) zo_198_127 (by decide) rfl ?_
    by_cases c31 : l2 < (4 : Int32)
    · rw [if_pos c31] at h
      refine ev_cmp_f (t := 135) zo_198_128 rfl (zcm_nge c31) rfl ?_
      refine ev_iconst (x := 0) zo_198_131 (by decide) rfl ?_
      refine ev_goto (t := 146) zo_198_132 rfl ?_
      exact G_X7_tells_146 hd l0 l1 l2 (zRem l2 (10 : Int32)) (0 : Int32) J r h (lv3) hlv3
    rw [if_neg c31] at h
    refine ev_cmp_t (t := 135) zo_198_128 rfl (zcm_ge c31) ?_
    refine ev_iload_n zo_198_135 rfl rfl rfl ?_
    refine ev_bipush (x := 20) zo_198_136 (by decide) rfl ?_
    by_cases c32 : l2 < (20 : Int32)
    · rw [if_pos c32] at h
      refine ev_cmp_f (t := 145) zo_198_138 rfl (zcm_nge c32) rfl ?_
      refine ev_iconst (x := 4) zo_198_141 (by decide) rfl ?_
      refine ev_goto (t := 146) zo_198_142 rfl ?_
      exact G_X7_tells_146 hd l0 l1 l2 (zRem l2 (10 : Int32)) (4 : Int32) J r h (lv3) hlv3
    rw [if_neg c32] at h
    refine ev_cmp_t (t := 145) zo_198_138 rfl (zcm_ge c32) ?_
    refine ev_iconst (x := 2) zo_198_145 (by decide) rfl ?_
    exact G_X7_tells_146 hd l0 l1 l2 (zRem l2 (10 : Int32)) (2 : Int32) J r h (lv3) hlv3
  rw [if_neg c27] at h
  refine ev_cmp_f (t := 85) zo_198_79 rfl (zcm_neq c27) rfl ?_
  refine ev_bipush (x := (-2)) zo_198_82 (by decide) rfl ?_
  cases h
  exact ev_retI zo_198_84 zr_198
def F_X7_tells_30 (l0 : Nat) (l1 : Int32) (l2 : Int32) (t0 : Int32) (J : zzJ) : Option (Int32 × zzJ) := (Option.bind (F_X7_isSheet l1 J) fun q35 => (if q35.1 = (0 : Int32) then some ((-2 : Int32), q35.2) else (Option.bind (F_X7_in l2.toInt64 (0 : Int64) (3 : Int64) q35.2) fun q37 => (if q37.1 = (0 : Int32) then (if t0 = (0 : Int32) then some ((-2 : Int32), q37.2) else F_X7_tells_57 l0 l1 l2 q37.2) else F_X7_tells_57 l0 l1 l2 q37.2))))
set_option maxRecDepth 100000 in
set_option maxHeartbeats 2000000 in
theorem G_X7_tells_30 {d : Nat} (hd : 16 ≤ d) : ∀ (l0 : Nat) (l1 : Int32) (l2 : Int32) (t0 : Int32) (J : zzJ) (r : Int32 × zzJ), F_X7_tells_30 l0 l1 l2 t0 J = some r → zzEv d 198 30 [.ref l0, .int l1, .int l2, zzU, zzU, zzU, zzU, zzU, zzU, zzU, zzU, zzU] [.int t0] (zK J) (some (.int r.1), zK r.2) := by
  intro l0 l1 l2 t0 J r h
  unfold F_X7_tells_30 at h
  refine ev_istore_n zo_198_30 rfl (zz_set rfl (by decide) (Nat.le_of_ble_eq_true rfl)) rfl ?_
  show zzEv _ _ _ [.ref l0, .int l1, .int l2, .int t0, zzU, zzU, zzU, zzU, zzU, zzU, zzU, zzU] _ _ _
  refine ev_iload_n zo_198_31 rfl rfl rfl ?_
  obtain ⟨q35, hq35, h⟩ := zz_bd h
  refine ev_cS (as := [.int l1]) (lsn := [.int l1]) (by omega) zo_198_32 zl_198_334 (by decide) (by rw [zm_206]; rfl) (by unfold zzIn; rw [zm_206]; rfl) (by rw [zm_206]; exact Nat.le_of_ble_eq_true rfl) (Nat.le_of_ble_eq_true rfl) (G_X7_isSheet (by omega) l1 J q35 hq35) rfl ?_
  show zzEv _ _ _ _ [.int q35.1] _ _
  by_cases c36 : q35.1 = (0 : Int32)
  · rw [if_pos c36] at h
    refine ev_if_t (t := 54) zo_198_35 rfl (zcm_eq c36) ?_
    refine ev_bipush (x := (-2)) zo_198_54 (by decide) rfl ?_
    cases h
    exact ev_retI zo_198_56 zr_198
  rw [if_neg c36] at h
  refine ev_if_f (t := 54) zo_198_35 rfl (zcm_neq c36) rfl ?_
  refine ev_iload_n zo_198_38 rfl rfl rfl ?_
  refine ev_i2l zo_198_39 rfl ?_
  refine ev_lconst (x := 0) zo_198_40 (by decide) rfl ?_
  refine ev_ldc2 zo_198_41 zc_198_104 rfl ?_
  obtain ⟨q37, hq37, h⟩ := zz_bd h
  refine ev_cS (as := [.long (3 : Int64), .long (0 : Int64), .long l2.toInt64]) (lsn := [.long l2.toInt64, zzU, .long (0 : Int64), zzU, .long (3 : Int64), zzU]) (by omega) zo_198_44 zl_198_88 (by decide) (by rw [zm_136]; rfl) (by unfold zzIn; rw [zm_136]; rfl) (by rw [zm_136]; exact Nat.le_of_ble_eq_true rfl) (Nat.le_of_ble_eq_true rfl) (G_X7_in (by omega) l2.toInt64 (0 : Int64) (3 : Int64) q35.2 q37 hq37) rfl ?_
  show zzEv _ _ _ _ [.int q37.1] _ _
  by_cases c38 : q37.1 = (0 : Int32)
  · rw [if_pos c38] at h
    refine ev_if_f (t := 57) zo_198_47 rfl (zcm_nne c38) rfl ?_
    refine ev_iload_n zo_198_50 rfl rfl rfl ?_
    by_cases c39 : t0 = (0 : Int32)
    · rw [if_pos c39] at h
      refine ev_if_f (t := 57) zo_198_51 rfl (zcm_nne c39) rfl ?_
      refine ev_bipush (x := (-2)) zo_198_54 (by decide) rfl ?_
      cases h
      exact ev_retI zo_198_56 zr_198
    rw [if_neg c39] at h
    refine ev_if_t (t := 57) zo_198_51 rfl (zcm_ne c39) ?_
    exact G_X7_tells_57 hd l0 l1 l2 q37.2 r h (.int t0) rfl
  rw [if_neg c38] at h
  refine ev_if_t (t := 57) zo_198_47 rfl (zcm_ne c38) ?_
  exact G_X7_tells_57 hd l0 l1 l2 q37.2 r h (.int t0) rfl
def F_X7_tells_29 (l0 : Nat) (l1 : Int32) (l2 : Int32) (J : zzJ) : Option (Int32 × zzJ) := F_X7_tells_30 l0 l1 l2 (0 : Int32) J
set_option maxRecDepth 100000 in
set_option maxHeartbeats 2000000 in
theorem G_X7_tells_29 {d : Nat} (hd : 16 ≤ d) : ∀ (l0 : Nat) (l1 : Int32) (l2 : Int32) (J : zzJ) (r : Int32 × zzJ), F_X7_tells_29 l0 l1 l2 J = some r → zzEv d 198 29 [.ref l0, .int l1, .int l2, zzU, zzU, zzU, zzU, zzU, zzU, zzU, zzU, zzU] [] (zK J) (some (.int r.1), zK r.2) := by
  intro l0 l1 l2 J r h
  unfold F_X7_tells_29 at h
  refine ev_iconst (x := 0) zo_198_29 (by decide) rfl ?_
  exact G_X7_tells_30 hd l0 l1 l2 (0 : Int32) J r h
def F_X7_tells (x0 : Nat) (x1 : Int32) (x2 : Int32) (J : zzJ) : Option (Int32 × zzJ) := (Option.bind (F_X7_in x2.toInt64 (10 : Int64) (39 : Int64) J) fun q40 => (if q40.1 = (0 : Int32) then F_X7_tells_29 x0 x1 x2 q40.2 else (if zKd x0 = 7 then (Option.bind (F_X7_isOne x0 (zRem x2 (10 : Int32)) q40.2) fun q43 => (if q43.1 = (0 : Int32) then F_X7_tells_29 x0 x1 x2 q43.2 else F_X7_tells_30 x0 x1 x2 (1 : Int32) q43.2)) else none)))
set_option maxRecDepth 100000 in
set_option maxHeartbeats 2000000 in
theorem G_X7_tells {d : Nat} (hd : 16 ≤ d) (x0 : Nat) (x1 : Int32) (x2 : Int32) (J : zzJ) (r : Int32 × zzJ) (h : F_X7_tells x0 x1 x2 J = some r) : zzEv d 198 0 [.ref x0, .int x1, .int x2, zzU, zzU, zzU, zzU, zzU, zzU, zzU, zzU, zzU] [] (zK J) (some (.int r.1), zK r.2) := by
  unfold F_X7_tells at h
  refine ev_iload_n zo_198_0 rfl rfl rfl ?_
  refine ev_i2l zo_198_1 rfl ?_
  refine ev_ldc2 zo_198_2 zc_198_181 rfl ?_
  refine ev_ldc2 zo_198_5 zc_198_349 rfl ?_
  obtain ⟨q40, hq40, h⟩ := zz_bd h
  refine ev_cS (as := [.long (39 : Int64), .long (10 : Int64), .long x2.toInt64]) (lsn := [.long x2.toInt64, zzU, .long (10 : Int64), zzU, .long (39 : Int64), zzU]) (by omega) zo_198_8 zl_198_88 (by decide) (by rw [zm_136]; rfl) (by unfold zzIn; rw [zm_136]; rfl) (by rw [zm_136]; exact Nat.le_of_ble_eq_true rfl) (Nat.le_of_ble_eq_true rfl) (G_X7_in (by omega) x2.toInt64 (10 : Int64) (39 : Int64) J q40 hq40) rfl ?_
  show zzEv _ _ _ _ [.int q40.1] _ _
  by_cases c41 : q40.1 = (0 : Int32)
  · rw [if_pos c41] at h
    refine ev_if_t (t := 29) zo_198_11 rfl (zcm_eq c41) ?_
    exact G_X7_tells_29 hd x0 x1 x2 q40.2 r h
  rw [if_neg c41] at h
  refine ev_if_f (t := 29) zo_198_11 rfl (zcm_neq c41) rfl ?_
  refine ev_aload_n zo_198_14 rfl rfl rfl rfl ?_
  refine ev_iload_n zo_198_15 rfl rfl rfl ?_
  refine ev_bipush (x := 10) zo_198_16 (by decide) rfl ?_
  refine ev_irem zo_198_18 (by decide) rfl ?_
  obtain ⟨c42, h⟩ := zz_chk h
  obtain ⟨q43, hq43, h⟩ := zz_bd h
  refine ev_cV (as := [.int (zRem x2 (10 : Int32))]) (lsn := [.ref x0, .int (zRem x2 (10 : Int32))]) (by omega) zo_198_19 zl_198_94 (by rw [zm_140]; rfl) (by rw [zm_140]; exact c42) (by rw [zm_140]; decide) (by unfold zzIn; rw [zm_140]; rfl) (by rw [zm_140]; exact Nat.le_of_ble_eq_true rfl) (Nat.le_of_ble_eq_true rfl) (G_X7_isOne (by omega) x0 (zRem x2 (10 : Int32)) q40.2 q43 hq43) rfl ?_
  show zzEv _ _ _ _ [.int q43.1] _ _
  by_cases c44 : q43.1 = (0 : Int32)
  · rw [if_pos c44] at h
    refine ev_if_t (t := 29) zo_198_22 rfl (zcm_eq c44) ?_
    exact G_X7_tells_29 hd x0 x1 x2 q43.2 r h
  rw [if_neg c44] at h
  refine ev_if_f (t := 29) zo_198_22 rfl (zcm_neq c44) rfl ?_
  refine ev_iconst (x := 1) zo_198_25 (by decide) rfl ?_
  refine ev_goto (t := 30) zo_198_26 rfl ?_
  exact G_X7_tells_30 hd x0 x1 x2 (1 : Int32) q43.2 r h
/-! X7_sheet -/
def F_X7_sheet_77 : Nat → Nat → Int32 → Int32 → Int32 → Int32 → zzJ → Option (Int32 × zzJ)
  | 0, _, _, _, _, _, _ => none
  | n + 1, l0, l1, l2, l3, l4, J => (if l4 < l3 then (if l2 < (0 : Int32) then some ((1 : Int32), J) else (if zKd l0 = 7 then (Option.bind (zMR l0 51) fun b4 => (if zKd b4 = 8 then (if zzIx (((40 : Int32) * l1) + l4) (zSz b4) then F_X7_sheet_77 n l0 l1 l2 l3 (l4 + 1) (wI J b4 (((40 : Int32) * l1) + l4).toNatClampNeg (0 : Int32)) else none) else none)) else none)) else some ((1 : Int32), J))
set_option maxRecDepth 100000 in
set_option maxHeartbeats 2000000 in
theorem G_X7_sheet_77 {d : Nat} (hd : 2 ≤ d) : ∀ (n : Nat) (l0 : Nat) (l1 : Int32) (l2 : Int32) (l3 : Int32) (l4 : Int32) (J : zzJ) (r : Int32 × zzJ), F_X7_sheet_77 n l0 l1 l2 l3 l4 J = some r → zzEv d 207 77 [.ref l0, .int l1, .int l2, .int l3, .int l4] [] (zK J) (some (.int r.1), zK r.2) := by
  intro n
  induction n with
  | zero => intro l0 l1 l2 l3 l4 J r h; simp [F_X7_sheet_77] at h
  | succ n ih =>
    intro l0 l1 l2 l3 l4 J r h
    rw [F_X7_sheet_77] at h
    refine ev_iload zo_207_77 rfl rfl ?_
    refine ev_iload_n zo_207_79 rfl rfl rfl ?_
    by_cases c1 : l4 < l3
    · rw [if_pos c1] at h
      refine ev_cmp_f (t := 106) zo_207_80 rfl (zcm_nge c1) rfl ?_
      refine ev_iload_n zo_207_83 rfl rfl rfl ?_
      by_cases c2 : l2 < (0 : Int32)
      · rw [if_pos c2] at h
        refine ev_if_t (t := 106) zo_207_84 rfl (zcm_lt c2) ?_
        refine ev_iconst (x := 1) zo_207_106 (by decide) rfl ?_
        cases h
        exact ev_retI zo_207_107 zr_207
      rw [if_neg c2] at h
      refine ev_if_f (t := 106) zo_207_84 rfl (zcm_nlt c2) rfl ?_
      refine ev_aload_n zo_207_87 rfl rfl rfl rfl ?_
      obtain ⟨c3, h⟩ := zz_chk h
      obtain ⟨b4, eb4, h⟩ := zz_bd h
      refine ev_getR zo_207_88 zf_207_75 (by decide) rfl c3 eb4 rfl ?_
      refine ev_bipush (x := 40) zo_207_91 (by decide) rfl ?_
      refine ev_iload_n zo_207_93 rfl rfl rfl ?_
      refine ev_imul zo_207_94 rfl ?_
      refine ev_iload zo_207_95 rfl rfl ?_
      refine ev_iadd zo_207_97 rfl ?_
      refine ev_iconst (x := 0) zo_207_98 (by decide) rfl ?_
      obtain ⟨c5, h⟩ := zz_chk h
      obtain ⟨c6, h⟩ := zz_chk h
      refine ev_iast zo_207_99 c5 c6 rfl ?_
      refine ev_iinc (v := 1) zo_207_100 rfl (by decide) (zz_set rfl (by decide) (Nat.le_of_ble_eq_true rfl)) rfl ?_
      show zzEv _ _ _ [.ref l0, .int l1, .int l2, .int l3, .int (l4 + 1)] _ _ _
      refine ev_goto (t := 77) zo_207_103 rfl ?_
      exact ih l0 l1 l2 l3 (l4 + 1) (wI J b4 (((40 : Int32) * l1) + l4).toNatClampNeg (0 : Int32)) r h
    rw [if_neg c1] at h
    refine ev_cmp_t (t := 106) zo_207_80 rfl (zcm_ge c1) ?_
    refine ev_iconst (x := 1) zo_207_106 (by decide) rfl ?_
    cases h
    exact ev_retI zo_207_107 zr_207
def F_X7_sheet_59 (l0 : Nat) (l1 : Int32) (l2 : Int32) (l3 : Int32) (t0 : Int32) (t1 : Int32) (t2 : Nat) (J : zzJ) : Option (Int32 × zzJ) := (if zKd t2 = 9 then (if zzIx t1 (zSz t2) then (if t0 = 0 ∨ t0 = 1 then (if zKd l0 = 7 then (Option.bind (zMR l0 49) fun b11 => (if zKd b11 = 8 then (if zzIx l1 (zSz b11) then (Option.bind (zMR l0 50) fun b14 => (if zKd b14 = 8 then (if zzIx l1 (zSz b14) then F_X7_sheet_77 4096 l0 l1 l2 l3 (0 : Int32) (wI (wI (wI J t2 t1.toNatClampNeg t0) b11 l1.toNatClampNeg l2) b14 l1.toNatClampNeg l3) else none) else none)) else none) else none)) else none) else none) else none) else none)
set_option maxRecDepth 100000 in
set_option maxHeartbeats 2000000 in
theorem G_X7_sheet_59 {d : Nat} (hd : 2 ≤ d) : ∀ (l0 : Nat) (l1 : Int32) (l2 : Int32) (l3 : Int32) (t0 : Int32) (t1 : Int32) (t2 : Nat) (J : zzJ) (r : Int32 × zzJ), F_X7_sheet_59 l0 l1 l2 l3 t0 t1 t2 J = some r → zzEv d 207 59 [.ref l0, .int l1, .int l2, .int l3, zzU] [.int t0, .int t1, .ref t2] (zK J) (some (.int r.1), zK r.2) := by
  intro l0 l1 l2 l3 t0 t1 t2 J r h
  unfold F_X7_sheet_59 at h
  obtain ⟨c7, h⟩ := zz_chk h
  obtain ⟨c8, h⟩ := zz_chk h
  obtain ⟨c9, h⟩ := zz_chk h
  refine ev_bast zo_207_59 c7 c8 c9 rfl ?_
  refine ev_aload_n zo_207_60 rfl rfl rfl rfl ?_
  obtain ⟨c10, h⟩ := zz_chk h
  obtain ⟨b11, eb11, h⟩ := zz_bd h
  refine ev_getR zo_207_61 zf_207_69 (by decide) rfl c10 eb11 rfl ?_
  refine ev_iload_n zo_207_64 rfl rfl rfl ?_
  refine ev_iload_n zo_207_65 rfl rfl rfl ?_
  obtain ⟨c12, h⟩ := zz_chk h
  obtain ⟨c13, h⟩ := zz_chk h
  refine ev_iast zo_207_66 c12 c13 rfl ?_
  refine ev_aload_n zo_207_67 rfl rfl rfl rfl ?_
  obtain ⟨b14, eb14, h⟩ := zz_bd h
  refine ev_getR zo_207_68 zf_207_72 (by decide) rfl c10 eb14 rfl ?_
  refine ev_iload_n zo_207_71 rfl rfl rfl ?_
  refine ev_iload_n zo_207_72 rfl rfl rfl ?_
  obtain ⟨c15, h⟩ := zz_chk h
  obtain ⟨c16, h⟩ := zz_chk h
  refine ev_iast zo_207_73 c15 c16 rfl ?_
  refine ev_iconst (x := 0) zo_207_74 (by decide) rfl ?_
  refine ev_istore zo_207_75 (zz_set rfl (by decide) (Nat.le_of_ble_eq_true rfl)) rfl ?_
  show zzEv _ _ _ [.ref l0, .int l1, .int l2, .int l3, .int (0 : Int32)] _ _ _
  exact G_X7_sheet_77 hd 4096 l0 l1 l2 l3 (0 : Int32) (wI (wI (wI J t2 t1.toNatClampNeg t0) b11 l1.toNatClampNeg l2) b14 l1.toNatClampNeg l3) r h
def F_X7_sheet_45 (l0 : Nat) (l1 : Int32) (l2 : Int32) (l3 : Int32) (J : zzJ) : Option (Int32 × zzJ) := (if zKd l0 = 7 then (Option.bind (zMR l0 48) fun b18 => (if l2 < (0 : Int32) then F_X7_sheet_59 l0 l1 l2 l3 (0 : Int32) l1 b18 J else F_X7_sheet_59 l0 l1 l2 l3 (1 : Int32) l1 b18 J)) else none)
set_option maxRecDepth 100000 in
set_option maxHeartbeats 2000000 in
theorem G_X7_sheet_45 {d : Nat} (hd : 2 ≤ d) : ∀ (l0 : Nat) (l1 : Int32) (l2 : Int32) (l3 : Int32) (J : zzJ) (r : Int32 × zzJ), F_X7_sheet_45 l0 l1 l2 l3 J = some r → zzEv d 207 45 [.ref l0, .int l1, .int l2, .int l3, zzU] [] (zK J) (some (.int r.1), zK r.2) := by
  intro l0 l1 l2 l3 J r h
  unfold F_X7_sheet_45 at h
  refine ev_aload_n zo_207_45 rfl rfl rfl rfl ?_
  obtain ⟨c17, h⟩ := zz_chk h
  obtain ⟨b18, eb18, h⟩ := zz_bd h
  refine ev_getR zo_207_46 zf_207_65 (by decide) rfl c17 eb18 rfl ?_
  refine ev_iload_n zo_207_49 rfl rfl rfl ?_
  refine ev_iload_n zo_207_50 rfl rfl rfl ?_
  by_cases c19 : l2 < (0 : Int32)
  · rw [if_pos c19] at h
    refine ev_if_t (t := 58) zo_207_51 rfl (zcm_lt c19) ?_
    refine ev_iconst (x := 0) zo_207_58 (by decide) rfl ?_
    exact G_X7_sheet_59 hd l0 l1 l2 l3 (0 : Int32) l1 b18 J r h
  rw [if_neg c19] at h
  refine ev_if_f (t := 58) zo_207_51 rfl (zcm_nlt c19) rfl ?_
  refine ev_iconst (x := 1) zo_207_54 (by decide) rfl ?_
  refine ev_goto (t := 59) zo_207_55 rfl ?_
  exact G_X7_sheet_59 hd l0 l1 l2 l3 (1 : Int32) l1 b18 J r h
def F_X7_sheet_34 (l0 : Nat) (l1 : Int32) (l2 : Int32) (l3 : Int32) (J : zzJ) : Option (Int32 × zzJ) := (if l2 < (0 : Int32) then F_X7_sheet_45 l0 l1 l2 l3 J else (if l3 < (0 : Int32) then some ((-14 : Int32), J) else F_X7_sheet_45 l0 l1 l2 l3 J))
set_option maxRecDepth 100000 in
set_option maxHeartbeats 2000000 in
theorem G_X7_sheet_34 {d : Nat} (hd : 2 ≤ d) : ∀ (l0 : Nat) (l1 : Int32) (l2 : Int32) (l3 : Int32) (J : zzJ) (r : Int32 × zzJ), F_X7_sheet_34 l0 l1 l2 l3 J = some r → zzEv d 207 34 [.ref l0, .int l1, .int l2, .int l3, zzU] [] (zK J) (some (.int r.1), zK r.2) := by
  intro l0 l1 l2 l3 J r h
  unfold F_X7_sheet_34 at h
  refine ev_iload_n zo_207_34 rfl rfl rfl ?_
  by_cases c20 : l2 < (0 : Int32)
  · rw [if_pos c20] at h
    refine ev_if_t (t := 45) zo_207_35 rfl (zcm_lt c20) ?_
    exact G_X7_sheet_45 hd l0 l1 l2 l3 J r h
  rw [if_neg c20] at h
  refine ev_if_f (t := 45) zo_207_35 rfl (zcm_nlt c20) rfl ?_
  refine ev_iload_n zo_207_38 rfl rfl rfl ?_
  by_cases c21 : l3 < (0 : Int32)
  · rw [if_pos c21] at h
    refine ev_if_f (t := 45) zo_207_39 rfl (zcm_nge c21) rfl ?_
    refine ev_bipush (x := (-14)) zo_207_42 (by decide) rfl ?_
    cases h
    exact ev_retI zo_207_44 zr_207
  rw [if_neg c21] at h
  refine ev_if_t (t := 45) zo_207_39 rfl (zcm_ge c21) ?_
  exact G_X7_sheet_45 hd l0 l1 l2 l3 J r h
def F_X7_sheet (x0 : Nat) (x1 : Int32) (x2 : Int32) (x3 : Int32) (J : zzJ) : Option (Int32 × zzJ) := (Option.bind (F_X7_isSheet x1 J) fun q22 => (if q22.1 = (0 : Int32) then some ((-2 : Int32), q22.2) else (Option.bind (F_X7_in x2.toInt64 (-1 : Int64) (2 : Int64) q22.2) fun q24 => (if q24.1 = (0 : Int32) then some ((-2 : Int32), q24.2) else (if x2 < (0 : Int32) then F_X7_sheet_34 x0 x1 x2 x3 q24.2 else (if (40 : Int32) < x3 then some ((-2 : Int32), q24.2) else F_X7_sheet_34 x0 x1 x2 x3 q24.2))))))
set_option maxRecDepth 100000 in
set_option maxHeartbeats 2000000 in
theorem G_X7_sheet {d : Nat} (hd : 2 ≤ d) (x0 : Nat) (x1 : Int32) (x2 : Int32) (x3 : Int32) (J : zzJ) (r : Int32 × zzJ) (h : F_X7_sheet x0 x1 x2 x3 J = some r) : zzEv d 207 0 [.ref x0, .int x1, .int x2, .int x3, zzU] [] (zK J) (some (.int r.1), zK r.2) := by
  unfold F_X7_sheet at h
  refine ev_iload_n zo_207_0 rfl rfl rfl ?_
  obtain ⟨q22, hq22, h⟩ := zz_bd h
  refine ev_cS (as := [.int x1]) (lsn := [.int x1]) (by omega) zo_207_1 zl_207_334 (by decide) (by rw [zm_206]; rfl) (by unfold zzIn; rw [zm_206]; rfl) (by rw [zm_206]; exact Nat.le_of_ble_eq_true rfl) (Nat.le_of_ble_eq_true rfl) (G_X7_isSheet (by omega) x1 J q22 hq22) rfl ?_
  show zzEv _ _ _ _ [.int q22.1] _ _
  by_cases c23 : q22.1 = (0 : Int32)
  · rw [if_pos c23] at h
    refine ev_if_t (t := 31) zo_207_4 rfl (zcm_eq c23) ?_
    refine ev_bipush (x := (-2)) zo_207_31 (by decide) rfl ?_
    cases h
    exact ev_retI zo_207_33 zr_207
  rw [if_neg c23] at h
  refine ev_if_f (t := 31) zo_207_4 rfl (zcm_neq c23) rfl ?_
  refine ev_iload_n zo_207_7 rfl rfl rfl ?_
  refine ev_i2l zo_207_8 rfl ?_
  refine ev_ldc2 zo_207_9 zc_207_376 rfl ?_
  refine ev_ldc2 zo_207_12 zc_207_284 rfl ?_
  obtain ⟨q24, hq24, h⟩ := zz_bd h
  refine ev_cS (as := [.long (2 : Int64), .long (-1 : Int64), .long x2.toInt64]) (lsn := [.long x2.toInt64, zzU, .long (-1 : Int64), zzU, .long (2 : Int64), zzU]) (by omega) zo_207_15 zl_207_88 (by decide) (by rw [zm_136]; rfl) (by unfold zzIn; rw [zm_136]; rfl) (by rw [zm_136]; exact Nat.le_of_ble_eq_true rfl) (Nat.le_of_ble_eq_true rfl) (G_X7_in (by omega) x2.toInt64 (-1 : Int64) (2 : Int64) q22.2 q24 hq24) rfl ?_
  show zzEv _ _ _ _ [.int q24.1] _ _
  by_cases c25 : q24.1 = (0 : Int32)
  · rw [if_pos c25] at h
    refine ev_if_t (t := 31) zo_207_18 rfl (zcm_eq c25) ?_
    refine ev_bipush (x := (-2)) zo_207_31 (by decide) rfl ?_
    cases h
    exact ev_retI zo_207_33 zr_207
  rw [if_neg c25] at h
  refine ev_if_f (t := 31) zo_207_18 rfl (zcm_neq c25) rfl ?_
  refine ev_iload_n zo_207_21 rfl rfl rfl ?_
  by_cases c26 : x2 < (0 : Int32)
  · rw [if_pos c26] at h
    refine ev_if_t (t := 34) zo_207_22 rfl (zcm_lt c26) ?_
    exact G_X7_sheet_34 hd x0 x1 x2 x3 q24.2 r h
  rw [if_neg c26] at h
  refine ev_if_f (t := 34) zo_207_22 rfl (zcm_nlt c26) rfl ?_
  refine ev_iload_n zo_207_25 rfl rfl rfl ?_
  refine ev_bipush (x := 40) zo_207_26 (by decide) rfl ?_
  by_cases c27 : (40 : Int32) < x3
  · rw [if_pos c27] at h
    refine ev_cmp_f (t := 34) zo_207_28 rfl (zcm_nle c27) rfl ?_
    refine ev_bipush (x := (-2)) zo_207_31 (by decide) rfl ?_
    cases h
    exact ev_retI zo_207_33 zr_207
  rw [if_neg c27] at h
  refine ev_cmp_t (t := 34) zo_207_28 rfl (zcm_le c27) ?_
  exact G_X7_sheet_34 hd x0 x1 x2 x3 q24.2 r h
/-! X7_film -/
def F_X7_film_23 : Nat → Nat → Int32 → Int32 → zzJ → Option (Int32 × zzJ)
  | 0, _, _, _, _ => none
  | n + 1, l0, l1, l2, J => (if zKd l0 = 7 then (if l2 < (J.2 l0 14) then (Option.bind (zMR l0 51) fun b3 => (Option.bind (F_X7_noiseOf l0 l2 J) fun q4 => (if zKd b3 = 8 then (if zzIx (((40 : Int32) * l1) + l2) (zSz b3) then F_X7_film_23 n l0 l1 (l2 + 1) (wI q4.2 b3 (((40 : Int32) * l1) + l2).toNatClampNeg q4.1) else none) else none))) else some ((J.2 l0 14), J)) else none)
set_option maxRecDepth 100000 in
set_option maxHeartbeats 2000000 in
theorem G_X7_film_23 {d : Nat} (hd : 14 ≤ d) : ∀ (n : Nat) (l0 : Nat) (l1 : Int32) (l2 : Int32) (J : zzJ) (r : Int32 × zzJ), F_X7_film_23 n l0 l1 l2 J = some r → zzEv d 199 23 [.ref l0, .int l1, .int l2] [] (zK J) (some (.int r.1), zK r.2) := by
  intro n
  induction n with
  | zero => intro l0 l1 l2 J r h; simp [F_X7_film_23] at h
  | succ n ih =>
    intro l0 l1 l2 J r h
    rw [F_X7_film_23] at h
    refine ev_iload_n zo_199_23 rfl rfl rfl ?_
    refine ev_aload_n zo_199_24 rfl rfl rfl rfl ?_
    obtain ⟨c1, h⟩ := zz_chk h
    refine ev_getI zo_199_25 zf_199_85 (by decide) (Or.inl rfl) c1 rfl ?_
    by_cases c2 : l2 < (J.2 l0 14)
    · rw [if_pos c2] at h
      refine ev_cmp_f (t := 53) zo_199_28 rfl (zcm_nge c2) rfl ?_
      refine ev_aload_n zo_199_31 rfl rfl rfl rfl ?_
      obtain ⟨b3, eb3, h⟩ := zz_bd h
      refine ev_getR zo_199_32 zf_199_75 (by decide) rfl c1 eb3 rfl ?_
      refine ev_bipush (x := 40) zo_199_35 (by decide) rfl ?_
      refine ev_iload_n zo_199_37 rfl rfl rfl ?_
      refine ev_imul zo_199_38 rfl ?_
      refine ev_iload_n zo_199_39 rfl rfl rfl ?_
      refine ev_iadd zo_199_40 rfl ?_
      refine ev_aload_n zo_199_41 rfl rfl rfl rfl ?_
      refine ev_iload_n zo_199_42 rfl rfl rfl ?_
      obtain ⟨q4, hq4, h⟩ := zz_bd h
      refine ev_cV (as := [.int l2]) (lsn := [.ref l0, .int l2, zzU, zzU, zzU, zzU]) (by omega) zo_199_43 zl_199_133 (by rw [zm_175]; rfl) (by rw [zm_175]; exact c1) (by rw [zm_175]; decide) (by unfold zzIn; rw [zm_175]; rfl) (by rw [zm_175]; exact Nat.le_of_ble_eq_true rfl) (Nat.le_of_ble_eq_true rfl) (G_X7_noiseOf (by omega) l0 l2 J q4 hq4) rfl ?_
      show zzEv _ _ _ _ [.int q4.1, .int (((40 : Int32) * l1) + l2), .ref b3] _ _
      obtain ⟨c5, h⟩ := zz_chk h
      obtain ⟨c6, h⟩ := zz_chk h
      refine ev_iast zo_199_46 c5 c6 rfl ?_
      refine ev_iinc (v := 1) zo_199_47 rfl (by decide) (zz_set rfl (by decide) (Nat.le_of_ble_eq_true rfl)) rfl ?_
      show zzEv _ _ _ [.ref l0, .int l1, .int (l2 + 1)] _ _ _
      refine ev_goto (t := 23) zo_199_50 rfl ?_
      exact ih l0 l1 (l2 + 1) (wI q4.2 b3 (((40 : Int32) * l1) + l2).toNatClampNeg q4.1) r h
    rw [if_neg c2] at h
    refine ev_cmp_t (t := 53) zo_199_28 rfl (zcm_ge c2) ?_
    refine ev_aload_n zo_199_53 rfl rfl rfl rfl ?_
    refine ev_getI zo_199_54 zf_199_85 (by decide) (Or.inl rfl) c1 rfl ?_
    cases h
    exact ev_retI zo_199_57 zr_199
def F_X7_film (x0 : Nat) (x1 : Int32) (J : zzJ) : Option (Int32 × zzJ) := (Option.bind (F_X7_isSheet x1 J) fun q7 => (if q7.1 = (0 : Int32) then some ((-2 : Int32), q7.2) else (if zKd x0 = 7 then (Option.bind (F_X7_sheet x0 x1 (1 : Int32) (q7.2.2 x0 14) q7.2) fun q10 => F_X7_film_23 4096 x0 x1 (0 : Int32) q10.2) else none)))
set_option maxRecDepth 100000 in
set_option maxHeartbeats 2000000 in
theorem G_X7_film {d : Nat} (hd : 14 ≤ d) (x0 : Nat) (x1 : Int32) (J : zzJ) (r : Int32 × zzJ) (h : F_X7_film x0 x1 J = some r) : zzEv d 199 0 [.ref x0, .int x1, zzU] [] (zK J) (some (.int r.1), zK r.2) := by
  unfold F_X7_film at h
  refine ev_iload_n zo_199_0 rfl rfl rfl ?_
  obtain ⟨q7, hq7, h⟩ := zz_bd h
  refine ev_cS (as := [.int x1]) (lsn := [.int x1]) (by omega) zo_199_1 zl_199_334 (by decide) (by rw [zm_206]; rfl) (by unfold zzIn; rw [zm_206]; rfl) (by rw [zm_206]; exact Nat.le_of_ble_eq_true rfl) (Nat.le_of_ble_eq_true rfl) (G_X7_isSheet (by omega) x1 J q7 hq7) rfl ?_
  show zzEv _ _ _ _ [.int q7.1] _ _
  by_cases c8 : q7.1 = (0 : Int32)
  · rw [if_pos c8] at h
    refine ev_if_f (t := 10) zo_199_4 rfl (zcm_nne c8) rfl ?_
    refine ev_bipush (x := (-2)) zo_199_7 (by decide) rfl ?_
    cases h
    exact ev_retI zo_199_9 zr_199
  rw [if_neg c8] at h
  refine ev_if_t (t := 10) zo_199_4 rfl (zcm_ne c8) ?_
  refine ev_aload_n zo_199_10 rfl rfl rfl rfl ?_
  refine ev_iload_n zo_199_11 rfl rfl rfl ?_
  refine ev_iconst (x := 1) zo_199_12 (by decide) rfl ?_
  refine ev_aload_n zo_199_13 rfl rfl rfl rfl ?_
  obtain ⟨c9, h⟩ := zz_chk h
  refine ev_getI zo_199_14 zf_199_85 (by decide) (Or.inl rfl) c9 rfl ?_
  obtain ⟨q10, hq10, h⟩ := zz_bd h
  refine ev_cV (as := [.int (q7.2.2 x0 14), .int (1 : Int32), .int x1]) (lsn := [.ref x0, .int x1, .int (1 : Int32), .int (q7.2.2 x0 14), zzU]) (by omega) zo_199_17 zl_199_354 (by rw [zm_207]; rfl) (by rw [zm_207]; exact c9) (by rw [zm_207]; decide) (by unfold zzIn; rw [zm_207]; rfl) (by rw [zm_207]; exact Nat.le_of_ble_eq_true rfl) (Nat.le_of_ble_eq_true rfl) (G_X7_sheet (by omega) x0 x1 (1 : Int32) (q7.2.2 x0 14) q7.2 q10 hq10) rfl ?_
  show zzEv _ _ _ _ [.int q10.1] _ _
  refine ev_pop zo_199_20 rfl rfl ?_
  refine ev_iconst (x := 0) zo_199_21 (by decide) rfl ?_
  refine ev_istore_n zo_199_22 rfl (zz_set rfl (by decide) (Nat.le_of_ble_eq_true rfl)) rfl ?_
  show zzEv _ _ _ [.ref x0, .int x1, .int (0 : Int32)] _ _ _
  exact G_X7_film_23 hd 4096 x0 x1 (0 : Int32) q10.2 r h
/-! X7_dinBy -/
def F_X7_dinBy_57 (kl_30 : Nat → Int32 → Int32 → zzJ → Option (Int32 × zzJ)) : Nat → Nat → Int32 → Int32 → Int32 → zzJ → Option (Int32 × zzJ)
  | 0, _, _, _, _, _ => none
  | n + 1, l0, l2, l3, l4, J => (if zKd l0 = 7 then (Option.bind (zMR l0 13) fun b2 => (if zKd b2 = 8 then (if zzIx l4 (zSz b2) then (if (J.2 b2 l4.toNatClampNeg) = (-1 : Int32) then (Option.bind (F_X7_seats l0 l3 l4 J) fun q6 => kl_30 l0 l2 (l3 + 1) q6) else F_X7_dinBy_57 kl_30 n l0 l2 l3 (zRem (l4 + (1 : Int32)) (24 : Int32)) J) else none) else none)) else none)
set_option maxRecDepth 100000 in
set_option maxHeartbeats 2000000 in
theorem G_X7_dinBy_57 {d : Nat} (kl_30 : Nat → Int32 → Int32 → zzJ → Option (Int32 × zzJ)) (hkl_30 : ∀ (l0 : Nat) (l2 : Int32) (l3 : Int32) (J : zzJ) (r : Int32 × zzJ), kl_30 l0 l2 l3 J = some r → ∀ (lv1 : Value) (hlv1 : lv1.category = 1), ∀ (lv4 : Value) (hlv4 : lv4.category = 1), zzEv d 200 30 [.ref l0, lv1, .int l2, .int l3, lv4] [] (zK J) (some (.int r.1), zK r.2)) (hd : 15 ≤ d) : ∀ (n : Nat) (l0 : Nat) (l2 : Int32) (l3 : Int32) (l4 : Int32) (J : zzJ) (r : Int32 × zzJ), F_X7_dinBy_57 kl_30 n l0 l2 l3 l4 J = some r → ∀ (lv1 : Value) (hlv1 : lv1.category = 1), zzEv d 200 57 [.ref l0, lv1, .int l2, .int l3, .int l4] [] (zK J) (some (.int r.1), zK r.2) := by
  intro n
  induction n with
  | zero => intro l0 l2 l3 l4 J r h; simp [F_X7_dinBy_57] at h
  | succ n ih =>
    intro l0 l2 l3 l4 J r h lv1 hlv1
    rw [F_X7_dinBy_57] at h
    refine ev_aload_n zo_200_57 rfl rfl rfl rfl ?_
    obtain ⟨c1, h⟩ := zz_chk h
    obtain ⟨b2, eb2, h⟩ := zz_bd h
    refine ev_getR zo_200_58 zf_200_38 (by decide) rfl c1 eb2 rfl ?_
    refine ev_iload zo_200_61 rfl rfl ?_
    obtain ⟨c3, h⟩ := zz_chk h
    obtain ⟨c4, h⟩ := zz_chk h
    refine ev_iald zo_200_63 c3 c4 rfl ?_
    refine ev_iconst (x := (-1)) zo_200_64 (by decide) rfl ?_
    by_cases c5 : (J.2 b2 l4.toNatClampNeg) = (-1 : Int32)
    · rw [if_pos c5] at h
      refine ev_cmp_t (t := 80) zo_200_65 rfl (zcm_eq c5) ?_
      refine ev_aload_n zo_200_80 rfl rfl rfl rfl ?_
      refine ev_iload_n zo_200_81 rfl rfl rfl ?_
      refine ev_iload zo_200_82 rfl rfl ?_
      obtain ⟨q6, hq6, h⟩ := zz_bd h
      refine ev_cV (as := [.int l4, .int l3]) (lsn := [.ref l0, .int l3, .int l4]) (by omega) zo_200_84 zl_200_129 (by rw [zm_146]; rfl) (by rw [zm_146]; exact c1) (by rw [zm_146]; decide) (by unfold zzIn; rw [zm_146]; rfl) (by rw [zm_146]; exact Nat.le_of_ble_eq_true rfl) (Nat.le_of_ble_eq_true rfl) (G_X7_seats (by omega) l0 l3 l4 J q6 hq6) rfl ?_
      show zzEv _ _ _ _ [] _ _
      refine ev_iinc (v := 1) zo_200_87 rfl (by decide) (zz_set rfl (by decide) (Nat.le_of_ble_eq_true rfl)) rfl ?_
      show zzEv _ _ _ [.ref l0, lv1, .int l2, .int (l3 + 1), .int l4] _ _ _
      refine ev_goto (t := 30) zo_200_90 rfl ?_
      exact hkl_30 l0 l2 (l3 + 1) q6 r h (lv1) hlv1 (.int l4) rfl
    rw [if_neg c5] at h
    refine ev_cmp_f (t := 80) zo_200_65 rfl (zcm_neq c5) rfl ?_
    refine ev_iload zo_200_68 rfl rfl ?_
    refine ev_iconst (x := 1) zo_200_70 (by decide) rfl ?_
    refine ev_iadd zo_200_71 rfl ?_
    refine ev_bipush (x := 24) zo_200_72 (by decide) rfl ?_
    refine ev_irem zo_200_74 (by decide) rfl ?_
    refine ev_istore zo_200_75 (zz_set rfl (by decide) (Nat.le_of_ble_eq_true rfl)) rfl ?_
    show zzEv _ _ _ [.ref l0, lv1, .int l2, .int l3, .int (zRem (l4 + (1 : Int32)) (24 : Int32))] _ _ _
    refine ev_goto (t := 57) zo_200_77 rfl ?_
    exact ih l0 l2 l3 (zRem (l4 + (1 : Int32)) (24 : Int32)) J r h (lv1) hlv1
def F_X7_dinBy_30 : Nat → Nat → Int32 → Int32 → zzJ → Option (Int32 × zzJ)
  | 0, _, _, _, _ => none
  | n + 1, l0, l2, l3, J => (if zKd l0 = 7 then (if l3 < (J.2 l0 14) then F_X7_dinBy_57 (F_X7_dinBy_30 n) 4096 l0 ((l2 * (1103515245 : Int32)) + (12345 : Int32)) l3 (zRem (zUsh ((l2 * (1103515245 : Int32)) + (12345 : Int32)) (9 : Int32)) (24 : Int32)) J else (Option.bind (F_X7_din l0 J) fun q9 => (Option.bind (F_X7_sitsAgain l0 q9.2) fun q10 => some (q9.1, q10)))) else none)
set_option maxRecDepth 100000 in
set_option maxHeartbeats 2000000 in
theorem G_X7_dinBy_30 {d : Nat} (hd : 15 ≤ d) : ∀ (n : Nat) (l0 : Nat) (l2 : Int32) (l3 : Int32) (J : zzJ) (r : Int32 × zzJ), F_X7_dinBy_30 n l0 l2 l3 J = some r → ∀ (lv1 : Value) (hlv1 : lv1.category = 1), ∀ (lv4 : Value) (hlv4 : lv4.category = 1), zzEv d 200 30 [.ref l0, lv1, .int l2, .int l3, lv4] [] (zK J) (some (.int r.1), zK r.2) := by
  intro n
  induction n with
  | zero => intro l0 l2 l3 J r h; simp [F_X7_dinBy_30] at h
  | succ n ih =>
    intro l0 l2 l3 J r h lv1 hlv1 lv4 hlv4
    rw [F_X7_dinBy_30] at h
    refine ev_iload_n zo_200_30 rfl rfl rfl ?_
    refine ev_aload_n zo_200_31 rfl rfl rfl rfl ?_
    obtain ⟨c7, h⟩ := zz_chk h
    refine ev_getI zo_200_32 zf_200_85 (by decide) (Or.inl rfl) c7 rfl ?_
    by_cases c8 : l3 < (J.2 l0 14)
    · rw [if_pos c8] at h
      refine ev_cmp_f (t := 93) zo_200_35 rfl (zcm_nge c8) rfl ?_
      refine ev_iload_n zo_200_38 rfl rfl rfl ?_
      refine ev_ldcw zo_200_39 zc_200_357 rfl ?_
      refine ev_imul zo_200_42 rfl ?_
      refine ev_sipush (x := 12345) zo_200_43 (by decide) rfl ?_
      refine ev_iadd zo_200_46 rfl ?_
      refine ev_istore_n zo_200_47 rfl (zz_set (zz_lg (j := 1) rfl hlv1) (by decide) (Nat.le_of_ble_eq_true rfl)) rfl ?_
      show zzEv _ _ _ [.ref l0, lv1, .int ((l2 * (1103515245 : Int32)) + (12345 : Int32)), .int l3, lv4] _ _ _
      refine ev_iload_n zo_200_48 rfl rfl rfl ?_
      refine ev_bipush (x := 9) zo_200_49 (by decide) rfl ?_
      refine ev_iushr zo_200_51 rfl ?_
      refine ev_bipush (x := 24) zo_200_52 (by decide) rfl ?_
      refine ev_irem zo_200_54 (by decide) rfl ?_
      refine ev_istore zo_200_55 (zz_set rfl (by decide) (Nat.le_of_ble_eq_true rfl)) rfl ?_
      show zzEv _ _ _ [.ref l0, lv1, .int ((l2 * (1103515245 : Int32)) + (12345 : Int32)), .int l3, .int (zRem (zUsh ((l2 * (1103515245 : Int32)) + (12345 : Int32)) (9 : Int32)) (24 : Int32))] _ _ _
      exact G_X7_dinBy_57 (F_X7_dinBy_30 n) ih hd 4096 l0 ((l2 * (1103515245 : Int32)) + (12345 : Int32)) l3 (zRem (zUsh ((l2 * (1103515245 : Int32)) + (12345 : Int32)) (9 : Int32)) (24 : Int32)) J r h (lv1) hlv1
    rw [if_neg c8] at h
    refine ev_cmp_t (t := 93) zo_200_35 rfl (zcm_ge c8) ?_
    refine ev_aload_n zo_200_93 rfl rfl rfl rfl ?_
    obtain ⟨q9, hq9, h⟩ := zz_bd h
    refine ev_cV (as := []) (lsn := [.ref l0, zzU, zzU]) (by omega) zo_200_94 zl_200_287 (by rw [zm_178]; rfl) (by rw [zm_178]; exact c7) (by rw [zm_178]; decide) (by unfold zzIn; rw [zm_178]; rfl) (by rw [zm_178]; exact Nat.le_of_ble_eq_true rfl) (Nat.le_of_ble_eq_true rfl) (G_X7_din (by omega) l0 J q9 hq9) rfl ?_
    show zzEv _ _ _ _ [.int q9.1] _ _
    refine ev_istore_n zo_200_97 rfl (zz_set rfl (by decide) (Nat.le_of_ble_eq_true rfl)) rfl ?_
    show zzEv _ _ _ [.ref l0, lv1, .int l2, .int q9.1, lv4] _ _ _
    refine ev_aload_n zo_200_98 rfl rfl rfl rfl ?_
    obtain ⟨q10, hq10, h⟩ := zz_bd h
    refine ev_cV (as := []) (lsn := [.ref l0, zzU]) (by omega) zo_200_99 zl_200_343 (by rw [zm_192]; rfl) (by rw [zm_192]; exact c7) (by rw [zm_192]; decide) (by unfold zzIn; rw [zm_192]; rfl) (by rw [zm_192]; exact Nat.le_of_ble_eq_true rfl) (Nat.le_of_ble_eq_true rfl) (G_X7_sitsAgain (by omega) l0 q9.2 q10 hq10) rfl ?_
    show zzEv _ _ _ _ [] _ _
    refine ev_iload_n zo_200_102 rfl rfl rfl ?_
    cases h
    exact ev_retI zo_200_103 zr_200
def F_X7_dinBy_6 : Nat → Nat → Int32 → Int32 → zzJ → Option (Int32 × zzJ)
  | 0, _, _, _, _ => none
  | n + 1, l0, l1, l2, J => (if zKd l0 = 7 then (if l2 < (J.2 l0 14) then (Option.bind (F_X7_seats l0 l2 (-1 : Int32) J) fun q13 => F_X7_dinBy_6 n l0 l1 (l2 + 1) q13) else F_X7_dinBy_30 4096 l0 l1 (0 : Int32) J) else none)
set_option maxRecDepth 100000 in
set_option maxHeartbeats 2000000 in
theorem G_X7_dinBy_6 {d : Nat} (hd : 15 ≤ d) : ∀ (n : Nat) (l0 : Nat) (l1 : Int32) (l2 : Int32) (J : zzJ) (r : Int32 × zzJ), F_X7_dinBy_6 n l0 l1 l2 J = some r → zzEv d 200 6 [.ref l0, .int l1, .int l2, zzU, zzU] [] (zK J) (some (.int r.1), zK r.2) := by
  intro n
  induction n with
  | zero => intro l0 l1 l2 J r h; simp [F_X7_dinBy_6] at h
  | succ n ih =>
    intro l0 l1 l2 J r h
    rw [F_X7_dinBy_6] at h
    refine ev_iload_n zo_200_6 rfl rfl rfl ?_
    refine ev_aload_n zo_200_7 rfl rfl rfl rfl ?_
    obtain ⟨c11, h⟩ := zz_chk h
    refine ev_getI zo_200_8 zf_200_85 (by decide) (Or.inl rfl) c11 rfl ?_
    by_cases c12 : l2 < (J.2 l0 14)
    · rw [if_pos c12] at h
      refine ev_cmp_f (t := 26) zo_200_11 rfl (zcm_nge c12) rfl ?_
      refine ev_aload_n zo_200_14 rfl rfl rfl rfl ?_
      refine ev_iload_n zo_200_15 rfl rfl rfl ?_
      refine ev_iconst (x := (-1)) zo_200_16 (by decide) rfl ?_
      obtain ⟨q13, hq13, h⟩ := zz_bd h
      refine ev_cV (as := [.int (-1 : Int32), .int l2]) (lsn := [.ref l0, .int l2, .int (-1 : Int32)]) (by omega) zo_200_17 zl_200_129 (by rw [zm_146]; rfl) (by rw [zm_146]; exact c11) (by rw [zm_146]; decide) (by unfold zzIn; rw [zm_146]; rfl) (by rw [zm_146]; exact Nat.le_of_ble_eq_true rfl) (Nat.le_of_ble_eq_true rfl) (G_X7_seats (by omega) l0 l2 (-1 : Int32) J q13 hq13) rfl ?_
      show zzEv _ _ _ _ [] _ _
      refine ev_iinc (v := 1) zo_200_20 rfl (by decide) (zz_set rfl (by decide) (Nat.le_of_ble_eq_true rfl)) rfl ?_
      show zzEv _ _ _ [.ref l0, .int l1, .int (l2 + 1), zzU, zzU] _ _ _
      refine ev_goto (t := 6) zo_200_23 rfl ?_
      exact ih l0 l1 (l2 + 1) q13 r h
    rw [if_neg c12] at h
    refine ev_cmp_t (t := 26) zo_200_11 rfl (zcm_ge c12) ?_
    refine ev_iload_n zo_200_26 rfl rfl rfl ?_
    refine ev_istore_n zo_200_27 rfl (zz_set rfl (by decide) (Nat.le_of_ble_eq_true rfl)) rfl ?_
    show zzEv _ _ _ [.ref l0, .int l1, .int l1, zzU, zzU] _ _ _
    refine ev_iconst (x := 0) zo_200_28 (by decide) rfl ?_
    refine ev_istore_n zo_200_29 rfl (zz_set rfl (by decide) (Nat.le_of_ble_eq_true rfl)) rfl ?_
    show zzEv _ _ _ [.ref l0, .int l1, .int l1, .int (0 : Int32), zzU] _ _ _
    exact G_X7_dinBy_30 hd 4096 l0 l1 (0 : Int32) J r h (.int l1) rfl (zzU) rfl
def F_X7_dinBy (x0 : Nat) (x1 : Int32) (J : zzJ) : Option (Int32 × zzJ) := (if zKd x0 = 7 then (Option.bind (F_X7_stands x0 J) fun q15 => F_X7_dinBy_6 4096 x0 x1 (0 : Int32) q15) else none)
set_option maxRecDepth 100000 in
set_option maxHeartbeats 2000000 in
theorem G_X7_dinBy {d : Nat} (hd : 15 ≤ d) (x0 : Nat) (x1 : Int32) (J : zzJ) (r : Int32 × zzJ) (h : F_X7_dinBy x0 x1 J = some r) : zzEv d 200 0 [.ref x0, .int x1, zzU, zzU, zzU] [] (zK J) (some (.int r.1), zK r.2) := by
  unfold F_X7_dinBy at h
  refine ev_aload_n zo_200_0 rfl rfl rfl rfl ?_
  obtain ⟨c14, h⟩ := zz_chk h
  obtain ⟨q15, hq15, h⟩ := zz_bd h
  refine ev_cV (as := []) (lsn := [.ref x0, zzU]) (by omega) zo_200_1 zl_200_340 (by rw [zm_191]; rfl) (by rw [zm_191]; exact c14) (by rw [zm_191]; decide) (by unfold zzIn; rw [zm_191]; rfl) (by rw [zm_191]; exact Nat.le_of_ble_eq_true rfl) (Nat.le_of_ble_eq_true rfl) (G_X7_stands (by omega) x0 J q15 hq15) rfl ?_
  show zzEv _ _ _ _ [] _ _
  refine ev_iconst (x := 0) zo_200_4 (by decide) rfl ?_
  refine ev_istore_n zo_200_5 rfl (zz_set rfl (by decide) (Nat.le_of_ble_eq_true rfl)) rfl ?_
  show zzEv _ _ _ [.ref x0, .int x1, .int (0 : Int32), zzU, zzU] _ _ _
  exact G_X7_dinBy_6 hd 4096 x0 x1 (0 : Int32) q15 r h
/-! X7_drawn -/
def F_X7_drawn (x0 : Nat) (x1 : Int32) (J : zzJ) : Option (Int32 × zzJ) := (if zKd x0 = 7 then (Option.bind (F_X7_dinBy x0 x1 J) fun q2 => some (q2.1, q2.2)) else none)
set_option maxRecDepth 100000 in
set_option maxHeartbeats 2000000 in
theorem G_X7_drawn {d : Nat} (hd : 16 ≤ d) (x0 : Nat) (x1 : Int32) (J : zzJ) (r : Int32 × zzJ) (h : F_X7_drawn x0 x1 J = some r) : zzEv d 201 0 [.ref x0, .int x1] [] (zK J) (some (.int r.1), zK r.2) := by
  unfold F_X7_drawn at h
  refine ev_aload_n zo_201_0 rfl rfl rfl rfl ?_
  refine ev_iload_n zo_201_1 rfl rfl rfl ?_
  obtain ⟨c1, h⟩ := zz_chk h
  obtain ⟨q2, hq2, h⟩ := zz_bd h
  refine ev_cV (as := [.int x1]) (lsn := [.ref x0, .int x1, zzU, zzU, zzU]) (by omega) zo_201_2 zl_201_358 (by rw [zm_200]; rfl) (by rw [zm_200]; exact c1) (by rw [zm_200]; decide) (by unfold zzIn; rw [zm_200]; rfl) (by rw [zm_200]; exact Nat.le_of_ble_eq_true rfl) (Nat.le_of_ble_eq_true rfl) (G_X7_dinBy (by omega) x0 x1 J q2 hq2) rfl ?_
  show zzEv _ _ _ _ [.int q2.1] _ _
  cases h
  exact ev_retI zo_201_5 zr_201
/-! X7_chance -/
def F_X7_chance_81 : Nat → Int32 → Int32 → Int64 → Int64 → Int64 → zzJ → Option (Int64 × zzJ)
  | 0, _, _, _, _, _, _ => none
  | n + 1, l2, l3, l5, l7, l9, J => (if (lg_cmp l9 (0 : Int64)) = (0 : Int32) then (if l3 = (0 : Int32) then (if ¬ l7 = 0 then some ((l5 / l7), J) else none) else (if ¬ l7 = 0 then some ((l2.toInt64 / l7), J) else none)) else (if ¬ l9 = 0 then F_X7_chance_81 n l2 l3 l5 l9 (zRemL l7 l9) J else none))
set_option maxRecDepth 100000 in
set_option maxHeartbeats 2000000 in
theorem G_X7_chance_81 {d : Nat} (hd : 16 ≤ d) : ∀ (n : Nat) (l2 : Int32) (l3 : Int32) (l5 : Int64) (l7 : Int64) (l9 : Int64) (J : zzJ) (r : Int64 × zzJ), F_X7_chance_81 n l2 l3 l5 l7 l9 J = some r → ∀ (lv0 : Value) (hlv0 : lv0.category = 1), ∀ (lv1 : Value) (hlv1 : lv1.category = 1), ∀ (lv4 : Value) (hlv4 : lv4.category = 1), ∀ (lv11 : Value), zzEv d 202 81 [lv0, lv1, .int l2, .int l3, lv4, .long l5, zzU, .long l7, zzU, .long l9, zzU, lv11, zzU] [] (zK J) (some (.long r.1), zK r.2) := by
  intro n
  induction n with
  | zero => intro l2 l3 l5 l7 l9 J r h; simp [F_X7_chance_81] at h
  | succ n ih =>
    intro l2 l3 l5 l7 l9 J r h lv0 hlv0 lv1 hlv1 lv4 hlv4 lv11
    rw [F_X7_chance_81] at h
    refine ev_lload zo_202_81 rfl rfl ?_
    refine ev_lconst (x := 0) zo_202_83 (by decide) rfl ?_
    refine ev_lcmp zo_202_84 rfl ?_
    by_cases c1 : (lg_cmp l9 (0 : Int64)) = (0 : Int32)
    · rw [if_pos c1] at h
      refine ev_if_t (t := 106) zo_202_85 rfl (zcm_eq c1) ?_
      refine ev_iload_n zo_202_106 rfl rfl rfl ?_
      by_cases c2 : l3 = (0 : Int32)
      · rw [if_pos c2] at h
        refine ev_if_f (t := 118) zo_202_107 rfl (zcm_nne c2) rfl ?_
        refine ev_lload zo_202_110 rfl rfl ?_
        refine ev_lload zo_202_112 rfl rfl ?_
        obtain ⟨c4, h⟩ := zz_chk h
        refine ev_ldiv zo_202_114 c4 rfl ?_
        refine ev_goto (t := 123) zo_202_115 rfl ?_
        cases h
        exact ev_retL zo_202_123 zr_202
      rw [if_neg c2] at h
      refine ev_if_t (t := 118) zo_202_107 rfl (zcm_ne c2) ?_
      refine ev_iload_n zo_202_118 rfl rfl rfl ?_
      refine ev_i2l zo_202_119 rfl ?_
      refine ev_lload zo_202_120 rfl rfl ?_
      obtain ⟨c3, h⟩ := zz_chk h
      refine ev_ldiv zo_202_122 c3 rfl ?_
      cases h
      exact ev_retL zo_202_123 zr_202
    rw [if_neg c1] at h
    refine ev_if_f (t := 106) zo_202_85 rfl (zcm_neq c1) rfl ?_
    refine ev_lload zo_202_88 rfl rfl ?_
    refine ev_lload zo_202_90 rfl rfl ?_
    obtain ⟨c5, h⟩ := zz_chk h
    refine ev_lrem zo_202_92 c5 rfl ?_
    refine ev_lstore zo_202_93 (zz_setL rfl (Nat.le_of_ble_eq_true rfl)) rfl ?_
    show zzEv _ _ _ [lv0, lv1, .int l2, .int l3, lv4, .long l5, zzU, .long l7, zzU, .long l9, zzU, .long (zRemL l7 l9), zzU] _ _ _
    refine ev_lload zo_202_95 rfl rfl ?_
    refine ev_lstore zo_202_97 (zz_setL rfl (Nat.le_of_ble_eq_true rfl)) rfl ?_
    show zzEv _ _ _ [lv0, lv1, .int l2, .int l3, lv4, .long l5, zzU, .long l9, zzU, .long l9, zzU, .long (zRemL l7 l9), zzU] _ _ _
    refine ev_lload zo_202_99 rfl rfl ?_
    refine ev_lstore zo_202_101 (zz_setL rfl (Nat.le_of_ble_eq_true rfl)) rfl ?_
    show zzEv _ _ _ [lv0, lv1, .int l2, .int l3, lv4, .long l5, zzU, .long l9, zzU, .long (zRemL l7 l9), zzU, .long (zRemL l7 l9), zzU] _ _ _
    refine ev_goto (t := 81) zo_202_103 rfl ?_
    exact ih l2 l3 l5 l9 (zRemL l7 l9) J r h (lv0) hlv0 (lv1) hlv1 (lv4) hlv4 (.long (zRemL l7 l9))
def F_X7_chance_38 : Nat → Nat → Int32 → Int32 → Int32 → Int32 → Int64 → Int32 → zzJ → Option (Int64 × zzJ)
  | 0, _, _, _, _, _, _, _, _ => none
  | n + 1, l0, l1, l2, l3, l4, l5, l7, J => (if l7 < l2 then (if zKd l0 = 7 then (Option.bind (F_X7_dinBy l0 (l1 + l7) J) fun q8 => (if l4 < q8.1 then F_X7_chance_38 n l0 l1 l2 l3 l4 (l5 + (0 : Int64)) (l7 + 1) q8.2 else F_X7_chance_38 n l0 l1 l2 l3 l4 (l5 + (1 : Int64)) (l7 + 1) q8.2)) else none) else F_X7_chance_81 4096 l2 l3 l5 l5 l2.toInt64 J)
set_option maxRecDepth 100000 in
set_option maxHeartbeats 2000000 in
theorem G_X7_chance_38 {d : Nat} (hd : 16 ≤ d) : ∀ (n : Nat) (l0 : Nat) (l1 : Int32) (l2 : Int32) (l3 : Int32) (l4 : Int32) (l5 : Int64) (l7 : Int32) (J : zzJ) (r : Int64 × zzJ), F_X7_chance_38 n l0 l1 l2 l3 l4 l5 l7 J = some r → zzEv d 202 38 [.ref l0, .int l1, .int l2, .int l3, .int l4, .long l5, zzU, .int l7, zzU, zzU, zzU, zzU, zzU] [] (zK J) (some (.long r.1), zK r.2) := by
  intro n
  induction n with
  | zero => intro l0 l1 l2 l3 l4 l5 l7 J r h; simp [F_X7_chance_38] at h
  | succ n ih =>
    intro l0 l1 l2 l3 l4 l5 l7 J r h
    rw [F_X7_chance_38] at h
    refine ev_iload zo_202_38 rfl rfl ?_
    refine ev_iload_n zo_202_40 rfl rfl rfl ?_
    by_cases c6 : l7 < l2
    · rw [if_pos c6] at h
      refine ev_cmp_f (t := 73) zo_202_41 rfl (zcm_nge c6) rfl ?_
      refine ev_lload zo_202_44 rfl rfl ?_
      refine ev_aload_n zo_202_46 rfl rfl rfl rfl ?_
      refine ev_iload_n zo_202_47 rfl rfl rfl ?_
      refine ev_iload zo_202_48 rfl rfl ?_
      refine ev_iadd zo_202_50 rfl ?_
      obtain ⟨c7, h⟩ := zz_chk h
      obtain ⟨q8, hq8, h⟩ := zz_bd h
      refine ev_cV (as := [.int (l1 + l7)]) (lsn := [.ref l0, .int (l1 + l7), zzU, zzU, zzU]) (by omega) zo_202_51 zl_202_358 (by rw [zm_200]; rfl) (by rw [zm_200]; exact c7) (by rw [zm_200]; decide) (by unfold zzIn; rw [zm_200]; rfl) (by rw [zm_200]; exact Nat.le_of_ble_eq_true rfl) (Nat.le_of_ble_eq_true rfl) (G_X7_dinBy (by omega) l0 (l1 + l7) J q8 hq8) rfl ?_
      show zzEv _ _ _ _ [.int q8.1, .long l5] _ _
      refine ev_iload zo_202_54 rfl rfl ?_
      by_cases c9 : l4 < q8.1
      · rw [if_pos c9] at h
        refine ev_cmp_t (t := 63) zo_202_56 rfl (zcm_gt c9) ?_
        refine ev_lconst (x := 0) zo_202_63 (by decide) rfl ?_
        refine ev_ladd zo_202_64 rfl ?_
        refine ev_lstore zo_202_65 (zz_setL rfl (Nat.le_of_ble_eq_true rfl)) rfl ?_
        show zzEv _ _ _ [.ref l0, .int l1, .int l2, .int l3, .int l4, .long (l5 + (0 : Int64)), zzU, .int l7, zzU, zzU, zzU, zzU, zzU] _ _ _
        refine ev_iinc (v := 1) zo_202_67 rfl (by decide) (zz_set rfl (by decide) (Nat.le_of_ble_eq_true rfl)) rfl ?_
        show zzEv _ _ _ [.ref l0, .int l1, .int l2, .int l3, .int l4, .long (l5 + (0 : Int64)), zzU, .int (l7 + 1), zzU, zzU, zzU, zzU, zzU] _ _ _
        refine ev_goto (t := 38) zo_202_70 rfl ?_
        exact ih l0 l1 l2 l3 l4 (l5 + (0 : Int64)) (l7 + 1) q8.2 r h
      rw [if_neg c9] at h
      refine ev_cmp_f (t := 63) zo_202_56 rfl (zcm_ngt c9) rfl ?_
      refine ev_lconst (x := 1) zo_202_59 (by decide) rfl ?_
      refine ev_goto (t := 64) zo_202_60 rfl ?_
      refine ev_ladd zo_202_64 rfl ?_
      refine ev_lstore zo_202_65 (zz_setL rfl (Nat.le_of_ble_eq_true rfl)) rfl ?_
      show zzEv _ _ _ [.ref l0, .int l1, .int l2, .int l3, .int l4, .long (l5 + (1 : Int64)), zzU, .int l7, zzU, zzU, zzU, zzU, zzU] _ _ _
      refine ev_iinc (v := 1) zo_202_67 rfl (by decide) (zz_set rfl (by decide) (Nat.le_of_ble_eq_true rfl)) rfl ?_
      show zzEv _ _ _ [.ref l0, .int l1, .int l2, .int l3, .int l4, .long (l5 + (1 : Int64)), zzU, .int (l7 + 1), zzU, zzU, zzU, zzU, zzU] _ _ _
      refine ev_goto (t := 38) zo_202_70 rfl ?_
      exact ih l0 l1 l2 l3 l4 (l5 + (1 : Int64)) (l7 + 1) q8.2 r h
    rw [if_neg c6] at h
    refine ev_cmp_t (t := 73) zo_202_41 rfl (zcm_ge c6) ?_
    refine ev_lload zo_202_73 rfl rfl ?_
    refine ev_lstore zo_202_75 (zz_setL rfl (Nat.le_of_ble_eq_true rfl)) rfl ?_
    show zzEv _ _ _ [.ref l0, .int l1, .int l2, .int l3, .int l4, .long l5, zzU, .long l5, zzU, zzU, zzU, zzU, zzU] _ _ _
    refine ev_iload_n zo_202_77 rfl rfl rfl ?_
    refine ev_i2l zo_202_78 rfl ?_
    refine ev_lstore zo_202_79 (zz_setL rfl (Nat.le_of_ble_eq_true rfl)) rfl ?_
    show zzEv _ _ _ [.ref l0, .int l1, .int l2, .int l3, .int l4, .long l5, zzU, .long l5, zzU, .long l2.toInt64, zzU, zzU, zzU] _ _ _
    exact G_X7_chance_81 hd 4096 l2 l3 l5 l5 l2.toInt64 J r h (.ref l0) rfl (.int l1) rfl (.int l4) rfl (zzU)
def F_X7_chance (x0 : Nat) (x1 : Int32) (x2 : Int32) (x3 : Int32) (J : zzJ) : Option (Int64 × zzJ) := (Option.bind (F_X7_in x2.toInt64 (1 : Int64) (20 : Int64) J) fun q10 => (if q10.1 = (0 : Int32) then some ((-4611686018427387904 : Int64), q10.2) else (Option.bind (F_X7_in x3.toInt64 (0 : Int64) (1 : Int64) q10.2) fun q12 => (if q12.1 = (0 : Int32) then some ((-4611686018427387904 : Int64), q12.2) else (if zKd x0 = 7 then (Option.bind (F_X7_din x0 q12.2) fun q15 => F_X7_chance_38 4096 x0 x1 x2 x3 q15.1 (0 : Int64) (0 : Int32) q15.2) else none)))))
set_option maxRecDepth 100000 in
set_option maxHeartbeats 2000000 in
theorem G_X7_chance {d : Nat} (hd : 16 ≤ d) (x0 : Nat) (x1 : Int32) (x2 : Int32) (x3 : Int32) (J : zzJ) (r : Int64 × zzJ) (h : F_X7_chance x0 x1 x2 x3 J = some r) : zzEv d 202 0 [.ref x0, .int x1, .int x2, .int x3, zzU, zzU, zzU, zzU, zzU, zzU, zzU, zzU, zzU] [] (zK J) (some (.long r.1), zK r.2) := by
  unfold F_X7_chance at h
  refine ev_iload_n zo_202_0 rfl rfl rfl ?_
  refine ev_i2l zo_202_1 rfl ?_
  refine ev_lconst (x := 1) zo_202_2 (by decide) rfl ?_
  refine ev_ldc2 zo_202_3 zc_202_361 rfl ?_
  obtain ⟨q10, hq10, h⟩ := zz_bd h
  refine ev_cS (as := [.long (20 : Int64), .long (1 : Int64), .long x2.toInt64]) (lsn := [.long x2.toInt64, zzU, .long (1 : Int64), zzU, .long (20 : Int64), zzU]) (by omega) zo_202_6 zl_202_88 (by decide) (by rw [zm_136]; rfl) (by unfold zzIn; rw [zm_136]; rfl) (by rw [zm_136]; exact Nat.le_of_ble_eq_true rfl) (Nat.le_of_ble_eq_true rfl) (G_X7_in (by omega) x2.toInt64 (1 : Int64) (20 : Int64) J q10 hq10) rfl ?_
  show zzEv _ _ _ _ [.int q10.1] _ _
  by_cases c11 : q10.1 = (0 : Int32)
  · rw [if_pos c11] at h
    refine ev_if_t (t := 22) zo_202_9 rfl (zcm_eq c11) ?_
    refine ev_ldc2 zo_202_22 zc_202_363 rfl ?_
    cases h
    exact ev_retL zo_202_25 zr_202
  rw [if_neg c11] at h
  refine ev_if_f (t := 22) zo_202_9 rfl (zcm_neq c11) rfl ?_
  refine ev_iload_n zo_202_12 rfl rfl rfl ?_
  refine ev_i2l zo_202_13 rfl ?_
  refine ev_lconst (x := 0) zo_202_14 (by decide) rfl ?_
  refine ev_lconst (x := 1) zo_202_15 (by decide) rfl ?_
  obtain ⟨q12, hq12, h⟩ := zz_bd h
  refine ev_cS (as := [.long (1 : Int64), .long (0 : Int64), .long x3.toInt64]) (lsn := [.long x3.toInt64, zzU, .long (0 : Int64), zzU, .long (1 : Int64), zzU]) (by omega) zo_202_16 zl_202_88 (by decide) (by rw [zm_136]; rfl) (by unfold zzIn; rw [zm_136]; rfl) (by rw [zm_136]; exact Nat.le_of_ble_eq_true rfl) (Nat.le_of_ble_eq_true rfl) (G_X7_in (by omega) x3.toInt64 (0 : Int64) (1 : Int64) q10.2 q12 hq12) rfl ?_
  show zzEv _ _ _ _ [.int q12.1] _ _
  by_cases c13 : q12.1 = (0 : Int32)
  · rw [if_pos c13] at h
    refine ev_if_f (t := 26) zo_202_19 rfl (zcm_nne c13) rfl ?_
    refine ev_ldc2 zo_202_22 zc_202_363 rfl ?_
    cases h
    exact ev_retL zo_202_25 zr_202
  rw [if_neg c13] at h
  refine ev_if_t (t := 26) zo_202_19 rfl (zcm_ne c13) ?_
  refine ev_aload_n zo_202_26 rfl rfl rfl rfl ?_
  obtain ⟨c14, h⟩ := zz_chk h
  obtain ⟨q15, hq15, h⟩ := zz_bd h
  refine ev_cV (as := []) (lsn := [.ref x0, zzU, zzU]) (by omega) zo_202_27 zl_202_287 (by rw [zm_178]; rfl) (by rw [zm_178]; exact c14) (by rw [zm_178]; decide) (by unfold zzIn; rw [zm_178]; rfl) (by rw [zm_178]; exact Nat.le_of_ble_eq_true rfl) (Nat.le_of_ble_eq_true rfl) (G_X7_din (by omega) x0 q12.2 q15 hq15) rfl ?_
  show zzEv _ _ _ _ [.int q15.1] _ _
  refine ev_istore zo_202_30 (zz_set rfl (by decide) (Nat.le_of_ble_eq_true rfl)) rfl ?_
  show zzEv _ _ _ [.ref x0, .int x1, .int x2, .int x3, .int q15.1, zzU, zzU, zzU, zzU, zzU, zzU, zzU, zzU] _ _ _
  refine ev_lconst (x := 0) zo_202_32 (by decide) rfl ?_
  refine ev_lstore zo_202_33 (zz_setL rfl (Nat.le_of_ble_eq_true rfl)) rfl ?_
  show zzEv _ _ _ [.ref x0, .int x1, .int x2, .int x3, .int q15.1, .long (0 : Int64), zzU, zzU, zzU, zzU, zzU, zzU, zzU] _ _ _
  refine ev_iconst (x := 0) zo_202_35 (by decide) rfl ?_
  refine ev_istore zo_202_36 (zz_set rfl (by decide) (Nat.le_of_ble_eq_true rfl)) rfl ?_
  show zzEv _ _ _ [.ref x0, .int x1, .int x2, .int x3, .int q15.1, .long (0 : Int64), zzU, .int (0 : Int32), zzU, zzU, zzU, zzU, zzU] _ _ _
  exact G_X7_chance_38 hd 4096 x0 x1 x2 x3 q15.1 (0 : Int64) (0 : Int32) q15.2 r h
/-! X7_image -/
def F_X7_image_2 : Nat → Nat → Int32 → zzJ → Option (Int32 × zzJ)
  | 0, _, _, _ => none
  | n + 1, l0, l1, J => (if zKd l0 = 7 then (if l1 < (J.2 l0 14) then (Option.bind (zMR l0 41) fun b3 => (Option.bind (zMR l0 10) fun b4 => (if zKd b4 = 8 then (if zzIx l1 (zSz b4) then (if zKd b3 = 8 then (if zzIx l1 (zSz b3) then (Option.bind (zMR l0 42) fun b9 => (Option.bind (zMR l0 11) fun b10 => (if zKd b10 = 8 then (if zzIx l1 (zSz b10) then (if zKd b9 = 8 then (if zzIx l1 (zSz b9) then (Option.bind (zMR l0 43) fun b15 => (Option.bind (zMR l0 12) fun b16 => (if zKd b16 = 8 then (if zzIx l1 (zSz b16) then (if zKd b15 = 8 then (if zzIx l1 (zSz b15) then F_X7_image_2 n l0 (l1 + 1) (wI (wI (wI J b3 l1.toNatClampNeg (J.2 b4 l1.toNatClampNeg)) b9 l1.toNatClampNeg ((wI J b3 l1.toNatClampNeg (J.2 b4 l1.toNatClampNeg)).2 b10 l1.toNatClampNeg)) b15 l1.toNatClampNeg ((wI (wI J b3 l1.toNatClampNeg (J.2 b4 l1.toNatClampNeg)) b9 l1.toNatClampNeg ((wI J b3 l1.toNatClampNeg (J.2 b4 l1.toNatClampNeg)).2 b10 l1.toNatClampNeg)).2 b16 l1.toNatClampNeg)) else none) else none) else none) else none))) else none) else none) else none) else none))) else none) else none) else none) else none))) else some (((wI (wI (wI (wI J l0 44 (J.2 l0 14)) l0 45 ((wI J l0 44 (J.2 l0 14)).2 l0 7)) l0 46 ((wI (wI J l0 44 (J.2 l0 14)) l0 45 ((wI J l0 44 (J.2 l0 14)).2 l0 7)).2 l0 8)) l0 47 ((wI (wI (wI J l0 44 (J.2 l0 14)) l0 45 ((wI J l0 44 (J.2 l0 14)).2 l0 7)) l0 46 ((wI (wI J l0 44 (J.2 l0 14)) l0 45 ((wI J l0 44 (J.2 l0 14)).2 l0 7)).2 l0 8)).2 l0 4)).2 l0 14), (wI (wI (wI (wI J l0 44 (J.2 l0 14)) l0 45 ((wI J l0 44 (J.2 l0 14)).2 l0 7)) l0 46 ((wI (wI J l0 44 (J.2 l0 14)) l0 45 ((wI J l0 44 (J.2 l0 14)).2 l0 7)).2 l0 8)) l0 47 ((wI (wI (wI J l0 44 (J.2 l0 14)) l0 45 ((wI J l0 44 (J.2 l0 14)).2 l0 7)) l0 46 ((wI (wI J l0 44 (J.2 l0 14)) l0 45 ((wI J l0 44 (J.2 l0 14)).2 l0 7)).2 l0 8)).2 l0 4)))) else none)
set_option maxRecDepth 100000 in
set_option maxHeartbeats 2000000 in
theorem G_X7_image_2 {d : Nat} (hd : 0 ≤ d) : ∀ (n : Nat) (l0 : Nat) (l1 : Int32) (J : zzJ) (r : Int32 × zzJ), F_X7_image_2 n l0 l1 J = some r → zzEv d 203 2 [.ref l0, .int l1] [] (zK J) (some (.int r.1), zK r.2) := by
  intro n
  induction n with
  | zero => intro l0 l1 J r h; simp [F_X7_image_2] at h
  | succ n ih =>
    intro l0 l1 J r h
    rw [F_X7_image_2] at h
    refine ev_iload_n zo_203_2 rfl rfl rfl ?_
    refine ev_aload_n zo_203_3 rfl rfl rfl rfl ?_
    obtain ⟨c1, h⟩ := zz_chk h
    refine ev_getI zo_203_4 zf_203_85 (by decide) (Or.inl rfl) c1 rfl ?_
    by_cases c2 : l1 < (J.2 l0 14)
    · rw [if_pos c2] at h
      refine ev_cmp_f (t := 52) zo_203_7 rfl (zcm_nge c2) rfl ?_
      refine ev_aload_n zo_203_10 rfl rfl rfl rfl ?_
      obtain ⟨b3, eb3, h⟩ := zz_bd h
      refine ev_getR zo_203_11 zf_203_53 (by decide) rfl c1 eb3 rfl ?_
      refine ev_iload_n zo_203_14 rfl rfl rfl ?_
      refine ev_aload_n zo_203_15 rfl rfl rfl rfl ?_
      obtain ⟨b4, eb4, h⟩ := zz_bd h
      refine ev_getR zo_203_16 zf_203_29 (by decide) rfl c1 eb4 rfl ?_
      refine ev_iload_n zo_203_19 rfl rfl rfl ?_
      obtain ⟨c5, h⟩ := zz_chk h
      obtain ⟨c6, h⟩ := zz_chk h
      refine ev_iald zo_203_20 c5 c6 rfl ?_
      obtain ⟨c7, h⟩ := zz_chk h
      obtain ⟨c8, h⟩ := zz_chk h
      refine ev_iast zo_203_21 c7 c8 rfl ?_
      refine ev_aload_n zo_203_22 rfl rfl rfl rfl ?_
      obtain ⟨b9, eb9, h⟩ := zz_bd h
      refine ev_getR zo_203_23 zf_203_56 (by decide) rfl c1 eb9 rfl ?_
      refine ev_iload_n zo_203_26 rfl rfl rfl ?_
      refine ev_aload_n zo_203_27 rfl rfl rfl rfl ?_
      obtain ⟨b10, eb10, h⟩ := zz_bd h
      refine ev_getR zo_203_28 zf_203_32 (by decide) rfl c1 eb10 rfl ?_
      refine ev_iload_n zo_203_31 rfl rfl rfl ?_
      obtain ⟨c11, h⟩ := zz_chk h
      obtain ⟨c12, h⟩ := zz_chk h
      refine ev_iald zo_203_32 c11 c12 rfl ?_
      obtain ⟨c13, h⟩ := zz_chk h
      obtain ⟨c14, h⟩ := zz_chk h
      refine ev_iast zo_203_33 c13 c14 rfl ?_
      refine ev_aload_n zo_203_34 rfl rfl rfl rfl ?_
      obtain ⟨b15, eb15, h⟩ := zz_bd h
      refine ev_getR zo_203_35 zf_203_59 (by decide) rfl c1 eb15 rfl ?_
      refine ev_iload_n zo_203_38 rfl rfl rfl ?_
      refine ev_aload_n zo_203_39 rfl rfl rfl rfl ?_
      obtain ⟨b16, eb16, h⟩ := zz_bd h
      refine ev_getR zo_203_40 zf_203_35 (by decide) rfl c1 eb16 rfl ?_
      refine ev_iload_n zo_203_43 rfl rfl rfl ?_
      obtain ⟨c17, h⟩ := zz_chk h
      obtain ⟨c18, h⟩ := zz_chk h
      refine ev_iald zo_203_44 c17 c18 rfl ?_
      obtain ⟨c19, h⟩ := zz_chk h
      obtain ⟨c20, h⟩ := zz_chk h
      refine ev_iast zo_203_45 c19 c20 rfl ?_
      refine ev_iinc (v := 1) zo_203_46 rfl (by decide) (zz_set rfl (by decide) (Nat.le_of_ble_eq_true rfl)) rfl ?_
      show zzEv _ _ _ [.ref l0, .int (l1 + 1)] _ _ _
      refine ev_goto (t := 2) zo_203_49 rfl ?_
      exact ih l0 (l1 + 1) (wI (wI (wI J b3 l1.toNatClampNeg (J.2 b4 l1.toNatClampNeg)) b9 l1.toNatClampNeg ((wI J b3 l1.toNatClampNeg (J.2 b4 l1.toNatClampNeg)).2 b10 l1.toNatClampNeg)) b15 l1.toNatClampNeg ((wI (wI J b3 l1.toNatClampNeg (J.2 b4 l1.toNatClampNeg)) b9 l1.toNatClampNeg ((wI J b3 l1.toNatClampNeg (J.2 b4 l1.toNatClampNeg)).2 b10 l1.toNatClampNeg)).2 b16 l1.toNatClampNeg)) r h
    rw [if_neg c2] at h
    refine ev_cmp_t (t := 52) zo_203_7 rfl (zcm_ge c2) ?_
    refine ev_aload_n zo_203_52 rfl rfl rfl rfl ?_
    refine ev_aload_n zo_203_53 rfl rfl rfl rfl ?_
    refine ev_getI zo_203_54 zf_203_85 (by decide) (Or.inl rfl) c1 rfl ?_
    refine ev_putI zo_203_57 zf_203_62 (by decide) rfl rfl c1 rfl ?_
    refine ev_aload_n zo_203_60 rfl rfl rfl rfl ?_
    refine ev_aload_n zo_203_61 rfl rfl rfl rfl ?_
    refine ev_getI zo_203_62 zf_203_118 (by decide) (Or.inl rfl) c1 rfl ?_
    refine ev_putI zo_203_65 zf_203_365 (by decide) rfl rfl c1 rfl ?_
    refine ev_aload_n zo_203_68 rfl rfl rfl rfl ?_
    refine ev_aload_n zo_203_69 rfl rfl rfl rfl ?_
    refine ev_getI zo_203_70 zf_203_23 (by decide) (Or.inl rfl) c1 rfl ?_
    refine ev_putI zo_203_73 zf_203_368 (by decide) rfl rfl c1 rfl ?_
    refine ev_aload_n zo_203_76 rfl rfl rfl rfl ?_
    refine ev_aload_n zo_203_77 rfl rfl rfl rfl ?_
    refine ev_getI zo_203_78 zf_203_121 (by decide) (Or.inl rfl) c1 rfl ?_
    refine ev_putI zo_203_81 zf_203_371 (by decide) rfl rfl c1 rfl ?_
    refine ev_aload_n zo_203_84 rfl rfl rfl rfl ?_
    refine ev_getI zo_203_85 zf_203_85 (by decide) (Or.inl rfl) c1 rfl ?_
    cases h
    exact ev_retI zo_203_88 zr_203
def F_X7_image (x0 : Nat) (J : zzJ) : Option (Int32 × zzJ) := F_X7_image_2 4096 x0 (0 : Int32) J
set_option maxRecDepth 100000 in
set_option maxHeartbeats 2000000 in
theorem G_X7_image {d : Nat} (hd : 0 ≤ d) (x0 : Nat) (J : zzJ) (r : Int32 × zzJ) (h : F_X7_image x0 J = some r) : zzEv d 203 0 [.ref x0, zzU] [] (zK J) (some (.int r.1), zK r.2) := by
  unfold F_X7_image at h
  refine ev_iconst (x := 0) zo_203_0 (by decide) rfl ?_
  refine ev_istore_n zo_203_1 rfl (zz_set rfl (by decide) (Nat.le_of_ble_eq_true rfl)) rfl ?_
  show zzEv _ _ _ [.ref x0, .int (0 : Int32)] _ _ _
  exact G_X7_image_2 hd 4096 x0 (0 : Int32) J r h
/-! X7_back -/
def F_X7_back_43 : Nat → Nat → Int32 → zzJ → Option (Int32 × zzJ)
  | 0, _, _, _ => none
  | n + 1, l0, l1, J => (if zKd l0 = 7 then (if l1 < (J.2 l0 14) then (Option.bind (zMR l0 10) fun b3 => (Option.bind (zMR l0 41) fun b4 => (if zKd b4 = 8 then (if zzIx l1 (zSz b4) then (if zKd b3 = 8 then (if zzIx l1 (zSz b3) then (Option.bind (zMR l0 11) fun b9 => (Option.bind (zMR l0 42) fun b10 => (if zKd b10 = 8 then (if zzIx l1 (zSz b10) then (if zKd b9 = 8 then (if zzIx l1 (zSz b9) then (Option.bind (zMR l0 43) fun b15 => (if zKd b15 = 8 then (if zzIx l1 (zSz b15) then (Option.bind (F_X7_seats l0 l1 ((wI (wI J b3 l1.toNatClampNeg (J.2 b4 l1.toNatClampNeg)) b9 l1.toNatClampNeg ((wI J b3 l1.toNatClampNeg (J.2 b4 l1.toNatClampNeg)).2 b10 l1.toNatClampNeg)).2 b15 l1.toNatClampNeg) (wI (wI J b3 l1.toNatClampNeg (J.2 b4 l1.toNatClampNeg)) b9 l1.toNatClampNeg ((wI J b3 l1.toNatClampNeg (J.2 b4 l1.toNatClampNeg)).2 b10 l1.toNatClampNeg))) fun q18 => F_X7_back_43 n l0 (l1 + 1) q18) else none) else none)) else none) else none) else none) else none))) else none) else none) else none) else none))) else some (((wI (wI (wI J l0 7 (J.2 l0 45)) l0 8 ((wI J l0 7 (J.2 l0 45)).2 l0 46)) l0 4 ((wI (wI J l0 7 (J.2 l0 45)) l0 8 ((wI J l0 7 (J.2 l0 45)).2 l0 46)).2 l0 47)).2 l0 14), (wI (wI (wI J l0 7 (J.2 l0 45)) l0 8 ((wI J l0 7 (J.2 l0 45)).2 l0 46)) l0 4 ((wI (wI J l0 7 (J.2 l0 45)) l0 8 ((wI J l0 7 (J.2 l0 45)).2 l0 46)).2 l0 47)))) else none)
set_option maxRecDepth 100000 in
set_option maxHeartbeats 2000000 in
theorem G_X7_back_43 {d : Nat} (hd : 1 ≤ d) : ∀ (n : Nat) (l0 : Nat) (l1 : Int32) (J : zzJ) (r : Int32 × zzJ), F_X7_back_43 n l0 l1 J = some r → zzEv d 204 43 [.ref l0, .int l1] [] (zK J) (some (.int r.1), zK r.2) := by
  intro n
  induction n with
  | zero => intro l0 l1 J r h; simp [F_X7_back_43] at h
  | succ n ih =>
    intro l0 l1 J r h
    rw [F_X7_back_43] at h
    refine ev_iload_n zo_204_43 rfl rfl rfl ?_
    refine ev_aload_n zo_204_44 rfl rfl rfl rfl ?_
    obtain ⟨c1, h⟩ := zz_chk h
    refine ev_getI zo_204_45 zf_204_85 (by decide) (Or.inl rfl) c1 rfl ?_
    by_cases c2 : l1 < (J.2 l0 14)
    · rw [if_pos c2] at h
      refine ev_cmp_f (t := 92) zo_204_48 rfl (zcm_nge c2) rfl ?_
      refine ev_aload_n zo_204_51 rfl rfl rfl rfl ?_
      obtain ⟨b3, eb3, h⟩ := zz_bd h
      refine ev_getR zo_204_52 zf_204_29 (by decide) rfl c1 eb3 rfl ?_
      refine ev_iload_n zo_204_55 rfl rfl rfl ?_
      refine ev_aload_n zo_204_56 rfl rfl rfl rfl ?_
      obtain ⟨b4, eb4, h⟩ := zz_bd h
      refine ev_getR zo_204_57 zf_204_53 (by decide) rfl c1 eb4 rfl ?_
      refine ev_iload_n zo_204_60 rfl rfl rfl ?_
      obtain ⟨c5, h⟩ := zz_chk h
      obtain ⟨c6, h⟩ := zz_chk h
      refine ev_iald zo_204_61 c5 c6 rfl ?_
      obtain ⟨c7, h⟩ := zz_chk h
      obtain ⟨c8, h⟩ := zz_chk h
      refine ev_iast zo_204_62 c7 c8 rfl ?_
      refine ev_aload_n zo_204_63 rfl rfl rfl rfl ?_
      obtain ⟨b9, eb9, h⟩ := zz_bd h
      refine ev_getR zo_204_64 zf_204_32 (by decide) rfl c1 eb9 rfl ?_
      refine ev_iload_n zo_204_67 rfl rfl rfl ?_
      refine ev_aload_n zo_204_68 rfl rfl rfl rfl ?_
      obtain ⟨b10, eb10, h⟩ := zz_bd h
      refine ev_getR zo_204_69 zf_204_56 (by decide) rfl c1 eb10 rfl ?_
      refine ev_iload_n zo_204_72 rfl rfl rfl ?_
      obtain ⟨c11, h⟩ := zz_chk h
      obtain ⟨c12, h⟩ := zz_chk h
      refine ev_iald zo_204_73 c11 c12 rfl ?_
      obtain ⟨c13, h⟩ := zz_chk h
      obtain ⟨c14, h⟩ := zz_chk h
      refine ev_iast zo_204_74 c13 c14 rfl ?_
      refine ev_aload_n zo_204_75 rfl rfl rfl rfl ?_
      refine ev_iload_n zo_204_76 rfl rfl rfl ?_
      refine ev_aload_n zo_204_77 rfl rfl rfl rfl ?_
      obtain ⟨b15, eb15, h⟩ := zz_bd h
      refine ev_getR zo_204_78 zf_204_59 (by decide) rfl c1 eb15 rfl ?_
      refine ev_iload_n zo_204_81 rfl rfl rfl ?_
      obtain ⟨c16, h⟩ := zz_chk h
      obtain ⟨c17, h⟩ := zz_chk h
      refine ev_iald zo_204_82 c16 c17 rfl ?_
      obtain ⟨q18, hq18, h⟩ := zz_bd h
      refine ev_cV (as := [.int ((wI (wI J b3 l1.toNatClampNeg (J.2 b4 l1.toNatClampNeg)) b9 l1.toNatClampNeg ((wI J b3 l1.toNatClampNeg (J.2 b4 l1.toNatClampNeg)).2 b10 l1.toNatClampNeg)).2 b15 l1.toNatClampNeg), .int l1]) (lsn := [.ref l0, .int l1, .int ((wI (wI J b3 l1.toNatClampNeg (J.2 b4 l1.toNatClampNeg)) b9 l1.toNatClampNeg ((wI J b3 l1.toNatClampNeg (J.2 b4 l1.toNatClampNeg)).2 b10 l1.toNatClampNeg)).2 b15 l1.toNatClampNeg)]) (by omega) zo_204_83 zl_204_129 (by rw [zm_146]; rfl) (by rw [zm_146]; exact c1) (by rw [zm_146]; decide) (by unfold zzIn; rw [zm_146]; rfl) (by rw [zm_146]; exact Nat.le_of_ble_eq_true rfl) (Nat.le_of_ble_eq_true rfl) (G_X7_seats (by omega) l0 l1 ((wI (wI J b3 l1.toNatClampNeg (J.2 b4 l1.toNatClampNeg)) b9 l1.toNatClampNeg ((wI J b3 l1.toNatClampNeg (J.2 b4 l1.toNatClampNeg)).2 b10 l1.toNatClampNeg)).2 b15 l1.toNatClampNeg) (wI (wI J b3 l1.toNatClampNeg (J.2 b4 l1.toNatClampNeg)) b9 l1.toNatClampNeg ((wI J b3 l1.toNatClampNeg (J.2 b4 l1.toNatClampNeg)).2 b10 l1.toNatClampNeg)) q18 hq18) rfl ?_
      show zzEv _ _ _ _ [] _ _
      refine ev_iinc (v := 1) zo_204_86 rfl (by decide) (zz_set rfl (by decide) (Nat.le_of_ble_eq_true rfl)) rfl ?_
      show zzEv _ _ _ [.ref l0, .int (l1 + 1)] _ _ _
      refine ev_goto (t := 43) zo_204_89 rfl ?_
      exact ih l0 (l1 + 1) q18 r h
    rw [if_neg c2] at h
    refine ev_cmp_t (t := 92) zo_204_48 rfl (zcm_ge c2) ?_
    refine ev_aload_n zo_204_92 rfl rfl rfl rfl ?_
    refine ev_aload_n zo_204_93 rfl rfl rfl rfl ?_
    refine ev_getI zo_204_94 zf_204_365 (by decide) (Or.inl rfl) c1 rfl ?_
    refine ev_putI zo_204_97 zf_204_118 (by decide) rfl rfl c1 rfl ?_
    refine ev_aload_n zo_204_100 rfl rfl rfl rfl ?_
    refine ev_aload_n zo_204_101 rfl rfl rfl rfl ?_
    refine ev_getI zo_204_102 zf_204_368 (by decide) (Or.inl rfl) c1 rfl ?_
    refine ev_putI zo_204_105 zf_204_23 (by decide) rfl rfl c1 rfl ?_
    refine ev_aload_n zo_204_108 rfl rfl rfl rfl ?_
    refine ev_aload_n zo_204_109 rfl rfl rfl rfl ?_
    refine ev_getI zo_204_110 zf_204_371 (by decide) (Or.inl rfl) c1 rfl ?_
    refine ev_putI zo_204_113 zf_204_121 (by decide) rfl rfl c1 rfl ?_
    refine ev_aload_n zo_204_116 rfl rfl rfl rfl ?_
    refine ev_getI zo_204_117 zf_204_85 (by decide) (Or.inl rfl) c1 rfl ?_
    cases h
    exact ev_retI zo_204_120 zr_204
def F_X7_back_13 : Nat → Nat → Int32 → zzJ → Option (Int32 × zzJ)
  | 0, _, _, _ => none
  | n + 1, l0, l1, J => (if zKd l0 = 7 then (if l1 < (J.2 l0 14) then (Option.bind (F_X7_seats l0 l1 (-1 : Int32) J) fun q21 => F_X7_back_13 n l0 (l1 + 1) q21) else F_X7_back_43 4096 l0 (0 : Int32) (wI J l0 14 (J.2 l0 44))) else none)
set_option maxRecDepth 100000 in
set_option maxHeartbeats 2000000 in
theorem G_X7_back_13 {d : Nat} (hd : 1 ≤ d) : ∀ (n : Nat) (l0 : Nat) (l1 : Int32) (J : zzJ) (r : Int32 × zzJ), F_X7_back_13 n l0 l1 J = some r → zzEv d 204 13 [.ref l0, .int l1] [] (zK J) (some (.int r.1), zK r.2) := by
  intro n
  induction n with
  | zero => intro l0 l1 J r h; simp [F_X7_back_13] at h
  | succ n ih =>
    intro l0 l1 J r h
    rw [F_X7_back_13] at h
    refine ev_iload_n zo_204_13 rfl rfl rfl ?_
    refine ev_aload_n zo_204_14 rfl rfl rfl rfl ?_
    obtain ⟨c19, h⟩ := zz_chk h
    refine ev_getI zo_204_15 zf_204_85 (by decide) (Or.inl rfl) c19 rfl ?_
    by_cases c20 : l1 < (J.2 l0 14)
    · rw [if_pos c20] at h
      refine ev_cmp_f (t := 33) zo_204_18 rfl (zcm_nge c20) rfl ?_
      refine ev_aload_n zo_204_21 rfl rfl rfl rfl ?_
      refine ev_iload_n zo_204_22 rfl rfl rfl ?_
      refine ev_iconst (x := (-1)) zo_204_23 (by decide) rfl ?_
      obtain ⟨q21, hq21, h⟩ := zz_bd h
      refine ev_cV (as := [.int (-1 : Int32), .int l1]) (lsn := [.ref l0, .int l1, .int (-1 : Int32)]) (by omega) zo_204_24 zl_204_129 (by rw [zm_146]; rfl) (by rw [zm_146]; exact c19) (by rw [zm_146]; decide) (by unfold zzIn; rw [zm_146]; rfl) (by rw [zm_146]; exact Nat.le_of_ble_eq_true rfl) (Nat.le_of_ble_eq_true rfl) (G_X7_seats (by omega) l0 l1 (-1 : Int32) J q21 hq21) rfl ?_
      show zzEv _ _ _ _ [] _ _
      refine ev_iinc (v := 1) zo_204_27 rfl (by decide) (zz_set rfl (by decide) (Nat.le_of_ble_eq_true rfl)) rfl ?_
      show zzEv _ _ _ [.ref l0, .int (l1 + 1)] _ _ _
      refine ev_goto (t := 13) zo_204_30 rfl ?_
      exact ih l0 (l1 + 1) q21 r h
    rw [if_neg c20] at h
    refine ev_cmp_t (t := 33) zo_204_18 rfl (zcm_ge c20) ?_
    refine ev_aload_n zo_204_33 rfl rfl rfl rfl ?_
    refine ev_aload_n zo_204_34 rfl rfl rfl rfl ?_
    refine ev_getI zo_204_35 zf_204_62 (by decide) (Or.inl rfl) c19 rfl ?_
    refine ev_putI zo_204_38 zf_204_85 (by decide) rfl rfl c19 rfl ?_
    refine ev_iconst (x := 0) zo_204_41 (by decide) rfl ?_
    refine ev_istore_n zo_204_42 rfl (zz_set rfl (by decide) (Nat.le_of_ble_eq_true rfl)) rfl ?_
    show zzEv _ _ _ [.ref l0, .int (0 : Int32)] _ _ _
    exact G_X7_back_43 hd 4096 l0 (0 : Int32) (wI J l0 14 (J.2 l0 44)) r h
def F_X7_back (x0 : Nat) (J : zzJ) : Option (Int32 × zzJ) := (if zKd x0 = 7 then (if (J.2 x0 44) = (-1 : Int32) then some ((-3 : Int32), J) else F_X7_back_13 4096 x0 (0 : Int32) J) else none)
set_option maxRecDepth 100000 in
set_option maxHeartbeats 2000000 in
theorem G_X7_back {d : Nat} (hd : 1 ≤ d) (x0 : Nat) (J : zzJ) (r : Int32 × zzJ) (h : F_X7_back x0 J = some r) : zzEv d 204 0 [.ref x0, zzU] [] (zK J) (some (.int r.1), zK r.2) := by
  unfold F_X7_back at h
  refine ev_aload_n zo_204_0 rfl rfl rfl rfl ?_
  obtain ⟨c22, h⟩ := zz_chk h
  refine ev_getI zo_204_1 zf_204_62 (by decide) (Or.inl rfl) c22 rfl ?_
  refine ev_iconst (x := (-1)) zo_204_4 (by decide) rfl ?_
  by_cases c23 : (J.2 x0 44) = (-1 : Int32)
  · rw [if_pos c23] at h
    refine ev_cmp_f (t := 11) zo_204_5 rfl (zcm_nne c23) rfl ?_
    refine ev_bipush (x := (-3)) zo_204_8 (by decide) rfl ?_
    cases h
    exact ev_retI zo_204_10 zr_204
  rw [if_neg c23] at h
  refine ev_cmp_t (t := 11) zo_204_5 rfl (zcm_ne c23) ?_
  refine ev_iconst (x := 0) zo_204_11 (by decide) rfl ?_
  refine ev_istore_n zo_204_12 rfl (zz_set rfl (by decide) (Nat.le_of_ble_eq_true rfl)) rfl ?_
  show zzEv _ _ _ [.ref x0, .int (0 : Int32)] _ _ _
  exact G_X7_back_13 hd 4096 x0 (0 : Int32) J r h
/-! X7_count -/
def F_X7_count_53 : Nat → Nat → Int32 → Int32 → Int32 → zzJ → Option (Int32 × zzJ)
  | 0, _, _, _, _, _ => none
  | n + 1, l0, l1, l2, l3, J => (if zKd l0 = 7 then (if l3 < (J.2 l0 14) then (if l1 = (0 : Int32) then F_X7_count_53 n l0 l1 (l2 + (1 : Int32)) (l3 + 1) J else (Option.bind (zMR l0 12) fun b4 => (if zKd b4 = 8 then (if zzIx l3 (zSz b4) then (if (J.2 b4 l3.toNatClampNeg) = (-1 : Int32) then F_X7_count_53 n l0 l1 (l2 + (0 : Int32)) (l3 + 1) J else F_X7_count_53 n l0 l1 (l2 + (1 : Int32)) (l3 + 1) J) else none) else none))) else some (l2, J)) else none)
set_option maxRecDepth 100000 in
set_option maxHeartbeats 2000000 in
theorem G_X7_count_53 {d : Nat} (hd : 1 ≤ d) : ∀ (n : Nat) (l0 : Nat) (l1 : Int32) (l2 : Int32) (l3 : Int32) (J : zzJ) (r : Int32 × zzJ), F_X7_count_53 n l0 l1 l2 l3 J = some r → zzEv d 205 53 [.ref l0, .int l1, .int l2, .int l3] [] (zK J) (some (.int r.1), zK r.2) := by
  intro n
  induction n with
  | zero => intro l0 l1 l2 l3 J r h; simp [F_X7_count_53] at h
  | succ n ih =>
    intro l0 l1 l2 l3 J r h
    rw [F_X7_count_53] at h
    refine ev_iload_n zo_205_53 rfl rfl rfl ?_
    refine ev_aload_n zo_205_54 rfl rfl rfl rfl ?_
    obtain ⟨c1, h⟩ := zz_chk h
    refine ev_getI zo_205_55 zf_205_85 (by decide) (Or.inl rfl) c1 rfl ?_
    by_cases c2 : l3 < (J.2 l0 14)
    · rw [if_pos c2] at h
      refine ev_cmp_f (t := 89) zo_205_58 rfl (zcm_nge c2) rfl ?_
      refine ev_iload_n zo_205_61 rfl rfl rfl ?_
      refine ev_iload_n zo_205_62 rfl rfl rfl ?_
      by_cases c3 : l1 = (0 : Int32)
      · rw [if_pos c3] at h
        refine ev_if_t (t := 76) zo_205_63 rfl (zcm_eq c3) ?_
        refine ev_iconst (x := 1) zo_205_76 (by decide) rfl ?_
        refine ev_goto (t := 81) zo_205_77 rfl ?_
        refine ev_iadd zo_205_81 rfl ?_
        refine ev_istore_n zo_205_82 rfl (zz_set rfl (by decide) (Nat.le_of_ble_eq_true rfl)) rfl ?_
        show zzEv _ _ _ [.ref l0, .int l1, .int (l2 + (1 : Int32)), .int l3] _ _ _
        refine ev_iinc (v := 1) zo_205_83 rfl (by decide) (zz_set rfl (by decide) (Nat.le_of_ble_eq_true rfl)) rfl ?_
        show zzEv _ _ _ [.ref l0, .int l1, .int (l2 + (1 : Int32)), .int (l3 + 1)] _ _ _
        refine ev_goto (t := 53) zo_205_86 rfl ?_
        exact ih l0 l1 (l2 + (1 : Int32)) (l3 + 1) J r h
      rw [if_neg c3] at h
      refine ev_if_f (t := 76) zo_205_63 rfl (zcm_neq c3) rfl ?_
      refine ev_aload_n zo_205_66 rfl rfl rfl rfl ?_
      obtain ⟨b4, eb4, h⟩ := zz_bd h
      refine ev_getR zo_205_67 zf_205_35 (by decide) rfl c1 eb4 rfl ?_
      refine ev_iload_n zo_205_70 rfl rfl rfl ?_
      obtain ⟨c5, h⟩ := zz_chk h
      obtain ⟨c6, h⟩ := zz_chk h
      refine ev_iald zo_205_71 c5 c6 rfl ?_
      refine ev_iconst (x := (-1)) zo_205_72 (by decide) rfl ?_
      by_cases c7 : (J.2 b4 l3.toNatClampNeg) = (-1 : Int32)
      · rw [if_pos c7] at h
        refine ev_cmp_t (t := 80) zo_205_73 rfl (zcm_eq c7) ?_
        refine ev_iconst (x := 0) zo_205_80 (by decide) rfl ?_
        refine ev_iadd zo_205_81 rfl ?_
        refine ev_istore_n zo_205_82 rfl (zz_set rfl (by decide) (Nat.le_of_ble_eq_true rfl)) rfl ?_
        show zzEv _ _ _ [.ref l0, .int l1, .int (l2 + (0 : Int32)), .int l3] _ _ _
        refine ev_iinc (v := 1) zo_205_83 rfl (by decide) (zz_set rfl (by decide) (Nat.le_of_ble_eq_true rfl)) rfl ?_
        show zzEv _ _ _ [.ref l0, .int l1, .int (l2 + (0 : Int32)), .int (l3 + 1)] _ _ _
        refine ev_goto (t := 53) zo_205_86 rfl ?_
        exact ih l0 l1 (l2 + (0 : Int32)) (l3 + 1) J r h
      rw [if_neg c7] at h
      refine ev_cmp_f (t := 80) zo_205_73 rfl (zcm_neq c7) rfl ?_
      refine ev_iconst (x := 1) zo_205_76 (by decide) rfl ?_
      refine ev_goto (t := 81) zo_205_77 rfl ?_
      refine ev_iadd zo_205_81 rfl ?_
      refine ev_istore_n zo_205_82 rfl (zz_set rfl (by decide) (Nat.le_of_ble_eq_true rfl)) rfl ?_
      show zzEv _ _ _ [.ref l0, .int l1, .int (l2 + (1 : Int32)), .int l3] _ _ _
      refine ev_iinc (v := 1) zo_205_83 rfl (by decide) (zz_set rfl (by decide) (Nat.le_of_ble_eq_true rfl)) rfl ?_
      show zzEv _ _ _ [.ref l0, .int l1, .int (l2 + (1 : Int32)), .int (l3 + 1)] _ _ _
      refine ev_goto (t := 53) zo_205_86 rfl ?_
      exact ih l0 l1 (l2 + (1 : Int32)) (l3 + 1) J r h
    rw [if_neg c2] at h
    refine ev_cmp_t (t := 89) zo_205_58 rfl (zcm_ge c2) ?_
    refine ev_iload_n zo_205_89 rfl rfl rfl ?_
    cases h
    exact ev_retI zo_205_90 zr_205
def F_X7_count (x0 : Nat) (x1 : Int32) (J : zzJ) : Option (Int32 × zzJ) := (Option.bind (F_X7_in x1.toInt64 (0 : Int64) (4 : Int64) J) fun q8 => (if q8.1 = (0 : Int32) then some ((-2 : Int32), q8.2) else (if (1 : Int32) < x1 then (if x1 = (2 : Int32) then (if zKd x0 = 7 then some ((q8.2.2 x0 3), q8.2) else none) else (if x1 = (3 : Int32) then (if zKd x0 = 7 then some ((q8.2.2 x0 6), q8.2) else none) else (if zKd x0 = 7 then some ((q8.2.2 x0 4), q8.2) else none))) else F_X7_count_53 4096 x0 x1 (0 : Int32) (0 : Int32) q8.2)))
set_option maxRecDepth 100000 in
set_option maxHeartbeats 2000000 in
theorem G_X7_count {d : Nat} (hd : 1 ≤ d) (x0 : Nat) (x1 : Int32) (J : zzJ) (r : Int32 × zzJ) (h : F_X7_count x0 x1 J = some r) : zzEv d 205 0 [.ref x0, .int x1, zzU, zzU] [] (zK J) (some (.int r.1), zK r.2) := by
  unfold F_X7_count at h
  refine ev_iload_n zo_205_0 rfl rfl rfl ?_
  refine ev_i2l zo_205_1 rfl ?_
  refine ev_lconst (x := 0) zo_205_2 (by decide) rfl ?_
  refine ev_ldc2 zo_205_3 zc_205_374 rfl ?_
  obtain ⟨q8, hq8, h⟩ := zz_bd h
  refine ev_cS (as := [.long (4 : Int64), .long (0 : Int64), .long x1.toInt64]) (lsn := [.long x1.toInt64, zzU, .long (0 : Int64), zzU, .long (4 : Int64), zzU]) (by omega) zo_205_6 zl_205_88 (by decide) (by rw [zm_136]; rfl) (by unfold zzIn; rw [zm_136]; rfl) (by rw [zm_136]; exact Nat.le_of_ble_eq_true rfl) (Nat.le_of_ble_eq_true rfl) (G_X7_in (by omega) x1.toInt64 (0 : Int64) (4 : Int64) J q8 hq8) rfl ?_
  show zzEv _ _ _ _ [.int q8.1] _ _
  by_cases c9 : q8.1 = (0 : Int32)
  · rw [if_pos c9] at h
    refine ev_if_f (t := 15) zo_205_9 rfl (zcm_nne c9) rfl ?_
    refine ev_bipush (x := (-2)) zo_205_12 (by decide) rfl ?_
    cases h
    exact ev_retI zo_205_14 zr_205
  rw [if_neg c9] at h
  refine ev_if_t (t := 15) zo_205_9 rfl (zcm_ne c9) ?_
  refine ev_iload_n zo_205_15 rfl rfl rfl ?_
  refine ev_iconst (x := 1) zo_205_16 (by decide) rfl ?_
  by_cases c10 : (1 : Int32) < x1
  · rw [if_pos c10] at h
    refine ev_cmp_f (t := 49) zo_205_17 rfl (zcm_nle c10) rfl ?_
    refine ev_iload_n zo_205_20 rfl rfl rfl ?_
    refine ev_iconst (x := 2) zo_205_21 (by decide) rfl ?_
    by_cases c11 : x1 = (2 : Int32)
    · rw [if_pos c11] at h
      refine ev_cmp_f (t := 32) zo_205_22 rfl (zcm_nne c11) rfl ?_
      refine ev_aload_n zo_205_25 rfl rfl rfl rfl ?_
      obtain ⟨c15, h⟩ := zz_chk h
      refine ev_getI zo_205_26 zf_205_82 (by decide) (Or.inl rfl) c15 rfl ?_
      refine ev_goto (t := 48) zo_205_29 rfl ?_
      cases h
      exact ev_retI zo_205_48 zr_205
    rw [if_neg c11] at h
    refine ev_cmp_t (t := 32) zo_205_22 rfl (zcm_ne c11) ?_
    refine ev_iload_n zo_205_32 rfl rfl rfl ?_
    refine ev_iconst (x := 3) zo_205_33 (by decide) rfl ?_
    by_cases c12 : x1 = (3 : Int32)
    · rw [if_pos c12] at h
      refine ev_cmp_f (t := 44) zo_205_34 rfl (zcm_nne c12) rfl ?_
      refine ev_aload_n zo_205_37 rfl rfl rfl rfl ?_
      obtain ⟨c14, h⟩ := zz_chk h
      refine ev_getI zo_205_38 zf_205_148 (by decide) (Or.inl rfl) c14 rfl ?_
      refine ev_goto (t := 48) zo_205_41 rfl ?_
      cases h
      exact ev_retI zo_205_48 zr_205
    rw [if_neg c12] at h
    refine ev_cmp_t (t := 44) zo_205_34 rfl (zcm_ne c12) ?_
    refine ev_aload_n zo_205_44 rfl rfl rfl rfl ?_
    obtain ⟨c13, h⟩ := zz_chk h
    refine ev_getI zo_205_45 zf_205_121 (by decide) (Or.inl rfl) c13 rfl ?_
    cases h
    exact ev_retI zo_205_48 zr_205
  rw [if_neg c10] at h
  refine ev_cmp_t (t := 49) zo_205_17 rfl (zcm_le c10) ?_
  refine ev_iconst (x := 0) zo_205_49 (by decide) rfl ?_
  refine ev_istore_n zo_205_50 rfl (zz_set rfl (by decide) (Nat.le_of_ble_eq_true rfl)) rfl ?_
  show zzEv _ _ _ [.ref x0, .int x1, .int (0 : Int32), zzU] _ _ _
  refine ev_iconst (x := 0) zo_205_51 (by decide) rfl ?_
  refine ev_istore_n zo_205_52 rfl (zz_set rfl (by decide) (Nat.le_of_ble_eq_true rfl)) rfl ?_
  show zzEv _ _ _ [.ref x0, .int x1, .int (0 : Int32), .int (0 : Int32)] _ _ _
  exact G_X7_count_53 hd 4096 x0 x1 (0 : Int32) (0 : Int32) q8.2 r h
