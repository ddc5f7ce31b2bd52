/-! the methods as functions, and that they are (written by wip/whole/gen2.py) -/
def R_X2_readOne : Nat → (Int32 → zzJ → Option (zzJ)) × (Int32 → zzJ → Option (zzJ)) × (Int32 → zzJ → Option (zzJ))
  | 0 => (fun _ _ => none, fun _ _ => none, fun _ _ => none)
  | n + 1 => (F_X2_readOr ((R_X2_readOne n).1) ((R_X2_readOne n).2.1) ((R_X2_readOne n).2.2), F_X2_readNot ((R_X2_readOne n).1) ((R_X2_readOne n).2.1) ((R_X2_readOne n).2.2), F_X2_readOne ((R_X2_readOne n).1) ((R_X2_readOne n).2.1) ((R_X2_readOne n).2.2))
theorem RG_X2_readOne : ∀ n : Nat, (∀ dd, n * 11 ≤ dd → ∀ (x1 : Int32) (J : zzJ) (q : zzJ), ((R_X2_readOne n).1) x1 J = some q → zzEv dd 42 0 [.ref 5, .int x1, zzU] [] (zK J) (none, zK q)) ∧ (∀ dd, n * 11 ≤ dd → ∀ (x1 : Int32) (J : zzJ) (q : zzJ), ((R_X2_readOne n).2.1) x1 J = some q → zzEv dd 44 0 [.ref 5, .int x1, zzU] [] (zK J) (none, zK q)) ∧ (∀ dd, n * 11 ≤ dd → ∀ (x1 : Int32) (J : zzJ) (q : zzJ), ((R_X2_readOne n).2.2) x1 J = some q → zzEv dd 47 0 [.ref 5, .int x1] [] (zK J) (none, zK q)) := by
  intro n
  induction n with
  | zero => exact ⟨fun _ _ _ _ _ h => absurd h (by simp [R_X2_readOne]), fun _ _ _ _ _ h => absurd h (by simp [R_X2_readOne]), fun _ _ _ _ _ h => absurd h (by simp [R_X2_readOne])⟩
  | succ n ih =>
    exact ⟨fun dd hdd x1 J q h => G_X2_readOr ((R_X2_readOne n).1) ((R_X2_readOne n).2.1) ((R_X2_readOne n).2.2) ih.1 ih.2.1 ih.2.2 (by rw [Nat.succ_mul] at hdd; omega) x1 J q h, fun dd hdd x1 J q h => G_X2_readNot ((R_X2_readOne n).1) ((R_X2_readOne n).2.1) ((R_X2_readOne n).2.2) ih.1 ih.2.1 ih.2.2 (by rw [Nat.succ_mul] at hdd; omega) x1 J q h, fun dd hdd x1 J q h => G_X2_readOne ((R_X2_readOne n).1) ((R_X2_readOne n).2.1) ((R_X2_readOne n).2.2) ih.1 ih.2.1 ih.2.2 (by rw [Nat.succ_mul] at hdd; omega) x1 J q h⟩
def E_X2_readOne (x1 : Int32) (J : zzJ) : Option (zzJ) := F_X2_readOne ((R_X2_readOne 8).1) ((R_X2_readOne 8).2.1) ((R_X2_readOne 8).2.2) x1 J
theorem EG_X2_readOne {d : Nat} (hd : 93 ≤ d) (x1 : Int32) (J : zzJ) (r : zzJ) (h : E_X2_readOne x1 J = some r) : zzEv d 47 0 [.ref 5, .int x1] [] (zK J) (none, zK r) := G_X2_readOne ((R_X2_readOne 8).1) ((R_X2_readOne 8).2.1) ((R_X2_readOne 8).2.2) (RG_X2_readOne 8).1 (RG_X2_readOne 8).2.1 (RG_X2_readOne 8).2.2 (by omega) x1 J r h
def E_X2_readTerm (x1 : Int32) (J : zzJ) : Option (zzJ) := F_X2_readTerm ((R_X2_readOne 8).1) ((R_X2_readOne 8).2.1) ((R_X2_readOne 8).2.2) x1 J
theorem EG_X2_readTerm {d : Nat} (hd : 94 ≤ d) (x1 : Int32) (J : zzJ) (r : zzJ) (h : E_X2_readTerm x1 J = some r) : zzEv d 46 0 [.ref 5, .int x1, zzU] [] (zK J) (none, zK r) := G_X2_readTerm ((R_X2_readOne 8).1) ((R_X2_readOne 8).2.1) ((R_X2_readOne 8).2.2) (RG_X2_readOne 8).1 (RG_X2_readOne 8).2.1 (RG_X2_readOne 8).2.2 (by omega) x1 J r h
def E_X2_readSum (x1 : Int32) (J : zzJ) : Option (zzJ) := F_X2_readSum ((R_X2_readOne 8).1) ((R_X2_readOne 8).2.1) ((R_X2_readOne 8).2.2) x1 J
theorem EG_X2_readSum {d : Nat} (hd : 95 ≤ d) (x1 : Int32) (J : zzJ) (r : zzJ) (h : E_X2_readSum x1 J = some r) : zzEv d 45 0 [.ref 5, .int x1, zzU, zzU] [] (zK J) (none, zK r) := G_X2_readSum ((R_X2_readOne 8).1) ((R_X2_readOne 8).2.1) ((R_X2_readOne 8).2.2) (RG_X2_readOne 8).1 (RG_X2_readOne 8).2.1 (RG_X2_readOne 8).2.2 (by omega) x1 J r h
def E_X2_readNot (x1 : Int32) (J : zzJ) : Option (zzJ) := F_X2_readNot ((R_X2_readOne 8).1) ((R_X2_readOne 8).2.1) ((R_X2_readOne 8).2.2) x1 J
theorem EG_X2_readNot {d : Nat} (hd : 96 ≤ d) (x1 : Int32) (J : zzJ) (r : zzJ) (h : E_X2_readNot x1 J = some r) : zzEv d 44 0 [.ref 5, .int x1, zzU] [] (zK J) (none, zK r) := G_X2_readNot ((R_X2_readOne 8).1) ((R_X2_readOne 8).2.1) ((R_X2_readOne 8).2.2) (RG_X2_readOne 8).1 (RG_X2_readOne 8).2.1 (RG_X2_readOne 8).2.2 (by omega) x1 J r h
def E_X2_readAnd (x1 : Int32) (J : zzJ) : Option (zzJ) := F_X2_readAnd ((R_X2_readOne 8).1) ((R_X2_readOne 8).2.1) ((R_X2_readOne 8).2.2) x1 J
theorem EG_X2_readAnd {d : Nat} (hd : 97 ≤ d) (x1 : Int32) (J : zzJ) (r : zzJ) (h : E_X2_readAnd x1 J = some r) : zzEv d 43 0 [.ref 5, .int x1, zzU] [] (zK J) (none, zK r) := G_X2_readAnd ((R_X2_readOne 8).1) ((R_X2_readOne 8).2.1) ((R_X2_readOne 8).2.2) (RG_X2_readOne 8).1 (RG_X2_readOne 8).2.1 (RG_X2_readOne 8).2.2 (by omega) x1 J r h
def E_X2_readOr (x1 : Int32) (J : zzJ) : Option (zzJ) := F_X2_readOr ((R_X2_readOne 8).1) ((R_X2_readOne 8).2.1) ((R_X2_readOne 8).2.2) x1 J
theorem EG_X2_readOr {d : Nat} (hd : 98 ≤ d) (x1 : Int32) (J : zzJ) (r : zzJ) (h : E_X2_readOr x1 J = some r) : zzEv d 42 0 [.ref 5, .int x1, zzU] [] (zK J) (none, zK r) := G_X2_readOr ((R_X2_readOne 8).1) ((R_X2_readOne 8).2.1) ((R_X2_readOne 8).2.2) (RG_X2_readOne 8).1 (RG_X2_readOne 8).2.1 (RG_X2_readOne 8).2.2 (by omega) x1 J r h
/-! X5_startDraft -/
def F_X5_startDraft (J : zzJ) : Option (zzJ) := some (wI J 1 4 ((J.2 1 3) * (160 : Int32)))
set_option maxRecDepth 100000 in
set_option maxHeartbeats 2000000 in
theorem G_X5_startDraft {d : Nat} (hd : 0 ≤ d) (J : zzJ) (r : zzJ) (h : F_X5_startDraft J = some r) : zzEv d 75 0 [.ref 1] [] (zK J) (none, zK r) := by
  unfold F_X5_startDraft at h
  refine ev_aload_n zo_75_0 rfl rfl rfl rfl ?_
  refine ev_aload_n zo_75_1 rfl rfl rfl rfl ?_
  refine ev_getI zo_75_2 zf_75_21 (by decide) (Or.inl rfl) rfl rfl ?_
  refine ev_sipush (x := 160) zo_75_5 (by decide) rfl ?_
  refine ev_imul zo_75_8 rfl ?_
  refine ev_putI zo_75_9 zf_75_25 (by decide) rfl rfl rfl rfl ?_
  obtain rfl := Option.some.inj h
  exact ev_retV zo_75_12 zr_75
/-! X5_endPart -/
def F_X5_endPart (x1 : Int32) (J : zzJ) : Option (zzJ) := (Option.bind (F_X6_put 3 (((J.2 1 3) * (3 : Int32)) + x1) (J.2 1 4) J) fun q1 => some q1)
set_option maxRecDepth 100000 in
set_option maxHeartbeats 2000000 in
theorem G_X5_endPart {d : Nat} (hd : 1 ≤ d) (x1 : Int32) (J : zzJ) (r : zzJ) (h : F_X5_endPart x1 J = some r) : zzEv d 77 0 [.ref 1, .int x1] [] (zK J) (none, zK r) := by
  unfold F_X5_endPart at h
  refine ev_aload_n zo_77_0 rfl rfl rfl rfl ?_
  refine ev_getR zo_77_1 zf_77_15 (by decide) rfl rfl rfl rfl ?_
  refine ev_aload_n zo_77_4 rfl rfl rfl rfl ?_
  refine ev_getI zo_77_5 zf_77_21 (by decide) (Or.inl rfl) rfl rfl ?_
  refine ev_iconst (x := 3) zo_77_8 (by decide) rfl ?_
  refine ev_imul zo_77_9 rfl ?_
  refine ev_iload_n zo_77_10 rfl rfl rfl ?_
  refine ev_iadd zo_77_11 rfl ?_
  refine ev_aload_n zo_77_12 rfl rfl rfl rfl ?_
  refine ev_getI zo_77_13 zf_77_25 (by decide) (Or.inl rfl) rfl rfl ?_
  obtain ⟨q1, hq1, h⟩ := zz_bd h
  refine ev_cS (as := [.int (J.2 1 4), .int (((J.2 1 3) * (3 : Int32)) + x1), .ref 3]) (lsn := [.ref 3, .int (((J.2 1 3) * (3 : Int32)) + x1), .int (J.2 1 4)]) (by omega) zo_77_16 zl_77_28 (by decide) (by rw [zm_126]; rfl) (by unfold zzIn; rw [zm_126]; rfl) (by rw [zm_126]; exact Nat.le_of_ble_eq_true rfl) (Nat.le_of_ble_eq_true rfl) (G_X6_put (by omega) 3 (((J.2 1 3) * (3 : Int32)) + x1) (J.2 1 4) J q1 hq1) rfl ?_
  show zzEv _ _ _ _ [] _ _
  obtain rfl := Option.some.inj h
  exact ev_retV zo_77_19 zr_77
/-! X5_keepDraft -/
def F_X5_keepDraft (J : zzJ) : Option (zzJ) := some (wI J 1 3 ((J.2 1 3) + (1 : Int32)))
set_option maxRecDepth 100000 in
set_option maxHeartbeats 2000000 in
theorem G_X5_keepDraft {d : Nat} (hd : 0 ≤ d) (J : zzJ) (r : zzJ) (h : F_X5_keepDraft J = some r) : zzEv d 78 0 [.ref 1] [] (zK J) (none, zK r) := by
  unfold F_X5_keepDraft at h
  refine ev_aload_n zo_78_0 rfl rfl rfl rfl ?_
  refine ev_dup zo_78_1 rfl rfl ?_
  refine ev_getI zo_78_2 zf_78_21 (by decide) (Or.inl rfl) rfl rfl ?_
  refine ev_iconst (x := 1) zo_78_5 (by decide) rfl ?_
  refine ev_iadd zo_78_6 rfl ?_
  refine ev_putI zo_78_7 zf_78_21 (by decide) rfl rfl rfl rfl ?_
  obtain rfl := Option.some.inj h
  exact ev_retV zo_78_10 zr_78
/-! X2_read -/
def F_X2_read_75 (J : zzJ) : Option (Int32 × zzJ) := (if (J.2 5 6) = (-1 : Int32) then (Option.bind (F_X5_keepDraft J) fun q2 => some (((wI q2 5 2 (0 : Int32)).2 5 6), (wI q2 5 2 (0 : Int32)))) else some (((wI J 5 2 (0 : Int32)).2 5 6), (wI J 5 2 (0 : Int32))))
set_option maxRecDepth 100000 in
set_option maxHeartbeats 2000000 in
theorem G_X2_read_75 {d : Nat} (hd : 99 ≤ d) : ∀ (J : zzJ) (r : Int32 × zzJ), F_X2_read_75 J = some r → ∀ (lv1 : Value) (hlv1 : lv1.category = 1), zzEv d 41 75 [.ref 5, lv1] [] (zK J) (some (.int r.1), zK r.2) := by
  intro J r h lv1 hlv1
  unfold F_X2_read_75 at h
  refine ev_aload_n zo_41_75 rfl rfl rfl rfl ?_
  refine ev_getI zo_41_76 zf_41_23 (by decide) (Or.inl rfl) rfl rfl ?_
  refine ev_iconst (x := (-1)) zo_41_79 (by decide) rfl ?_
  by_cases c1 : (J.2 5 6) = (-1 : Int32)
  · rw [if_pos c1] at h
    refine ev_cmp_f (t := 90) zo_41_80 rfl (zcm_nne c1) rfl ?_
    refine ev_aload_n zo_41_83 rfl rfl rfl rfl ?_
    refine ev_getR zo_41_84 zf_41_9 (by decide) rfl rfl rfl rfl ?_
    obtain ⟨q2, hq2, h⟩ := zz_bd h
    refine ev_cV (as := []) (lsn := [.ref 1]) (by omega) zo_41_87 zl_41_57 (by rw [zm_78]; rfl) (by rw [zm_78]; exact rfl) (by rw [zm_78]; decide) (by unfold zzIn; rw [zm_78]; rfl) (by rw [zm_78]; exact Nat.le_of_ble_eq_true rfl) (Nat.le_of_ble_eq_true rfl) (G_X5_keepDraft (by omega) J q2 hq2) rfl ?_
    show zzEv _ _ _ _ [] _ _
    refine ev_aload_n zo_41_90 rfl rfl rfl rfl ?_
    refine ev_iconst (x := 0) zo_41_91 (by decide) rfl ?_
    refine ev_putI zo_41_92 zf_41_19 (by decide) rfl rfl rfl rfl ?_
    refine ev_aload_n zo_41_95 rfl rfl rfl rfl ?_
    refine ev_getI zo_41_96 zf_41_23 (by decide) (Or.inl rfl) rfl rfl ?_
    obtain rfl := Option.some.inj h
    exact ev_retI zo_41_99 zr_41
  rw [if_neg c1] at h
  refine ev_cmp_t (t := 90) zo_41_80 rfl (zcm_ne c1) ?_
  refine ev_aload_n zo_41_90 rfl rfl rfl rfl ?_
  refine ev_iconst (x := 0) zo_41_91 (by decide) rfl ?_
  refine ev_putI zo_41_92 zf_41_19 (by decide) rfl rfl rfl rfl ?_
  refine ev_aload_n zo_41_95 rfl rfl rfl rfl ?_
  refine ev_getI zo_41_96 zf_41_23 (by decide) (Or.inl rfl) rfl rfl ?_
  obtain rfl := Option.some.inj h
  exact ev_retI zo_41_99 zr_41
def F_X2_read_23 : Nat → Int32 → zzJ → Option (Int32 × zzJ)
  | 0, _, _ => none
  | n + 1, l1, J => (if l1 < (3 : Int32) then (Option.bind (F_X2_expect ((10006 : Int32) + l1) J) fun q6 => (Option.bind (E_X2_readOr (0 : Int32) q6) fun q7 => (Option.bind (F_X2_expect (11059 : Int32) q7) fun q8 => (Option.bind (F_X5_endPart l1 q8) fun q9 => F_X2_read_23 n (l1 + 1) q9)))) else (if (J.2 5 5) = (-1 : Int32) then F_X2_read_75 J else (Option.bind (F_X2_fail J) fun q5 => F_X2_read_75 q5)))
set_option maxRecDepth 100000 in
set_option maxHeartbeats 2000000 in
theorem G_X2_read_23 {d : Nat} (hd : 99 ≤ d) : ∀ (n : Nat) (l1 : Int32) (J : zzJ) (r : Int32 × zzJ), F_X2_read_23 n l1 J = some r → zzEv d 41 23 [.ref 5, .int l1] [] (zK J) (some (.int r.1), zK r.2) := by
  intro n
  induction n with
  | zero => intro l1 J r h; simp [F_X2_read_23] at h
  | succ n ih =>
    intro l1 J r h
    rw [F_X2_read_23] at h
    refine ev_iload_n zo_41_23 rfl rfl rfl ?_
    refine ev_iconst (x := 3) zo_41_24 (by decide) rfl ?_
    by_cases c3 : l1 < (3 : Int32)
    · rw [if_pos c3] at h
      refine ev_cmp_f (t := 63) zo_41_25 rfl (zcm_nge c3) rfl ?_
      refine ev_aload_n zo_41_28 rfl rfl rfl rfl ?_
      refine ev_sipush (x := 10006) zo_41_29 (by decide) rfl ?_
      refine ev_iload_n zo_41_32 rfl rfl rfl ?_
      refine ev_iadd zo_41_33 rfl ?_
      obtain ⟨q6, hq6, h⟩ := zz_bd h
      refine ev_cV (as := [.int ((10006 : Int32) + l1)]) (lsn := [.ref 5, .int ((10006 : Int32) + l1)]) (by omega) zo_41_34 zl_41_41 (by rw [zm_49]; rfl) (by rw [zm_49]; exact rfl) (by rw [zm_49]; decide) (by unfold zzIn; rw [zm_49]; rfl) (by rw [zm_49]; exact Nat.le_of_ble_eq_true rfl) (Nat.le_of_ble_eq_true rfl) (G_X2_expect (by omega) ((10006 : Int32) + l1) J q6 hq6) rfl ?_
      show zzEv _ _ _ _ [] _ _
      refine ev_aload_n zo_41_37 rfl rfl rfl rfl ?_
      refine ev_iconst (x := 0) zo_41_38 (by decide) rfl ?_
      obtain ⟨q7, hq7, h⟩ := zz_bd h
      refine ev_cV (as := [.int (0 : Int32)]) (lsn := [.ref 5, .int (0 : Int32), zzU]) (by omega) zo_41_39 zl_41_45 (by rw [zm_42]; rfl) (by rw [zm_42]; exact rfl) (by rw [zm_42]; decide) (by unfold zzIn; rw [zm_42]; rfl) (by rw [zm_42]; exact Nat.le_of_ble_eq_true rfl) (Nat.le_of_ble_eq_true rfl) (EG_X2_readOr (by omega) (0 : Int32) q6 q7 hq7) rfl ?_
      show zzEv _ _ _ _ [] _ _
      refine ev_aload_n zo_41_42 rfl rfl rfl rfl ?_
      refine ev_sipush (x := 11059) zo_41_43 (by decide) rfl ?_
      obtain ⟨q8, hq8, h⟩ := zz_bd h
      refine ev_cV (as := [.int (11059 : Int32)]) (lsn := [.ref 5, .int (11059 : Int32)]) (by omega) zo_41_46 zl_41_41 (by rw [zm_49]; rfl) (by rw [zm_49]; exact rfl) (by rw [zm_49]; decide) (by unfold zzIn; rw [zm_49]; rfl) (by rw [zm_49]; exact Nat.le_of_ble_eq_true rfl) (Nat.le_of_ble_eq_true rfl) (G_X2_expect (by omega) (11059 : Int32) q7 q8 hq8) rfl ?_
      show zzEv _ _ _ _ [] _ _
      refine ev_aload_n zo_41_49 rfl rfl rfl rfl ?_
      refine ev_getR zo_41_50 zf_41_9 (by decide) rfl rfl rfl rfl ?_
      refine ev_iload_n zo_41_53 rfl rfl rfl ?_
      obtain ⟨q9, hq9, h⟩ := zz_bd h
      refine ev_cV (as := [.int l1]) (lsn := [.ref 1, .int l1]) (by omega) zo_41_54 zl_41_48 (by rw [zm_77]; rfl) (by rw [zm_77]; exact rfl) (by rw [zm_77]; decide) (by unfold zzIn; rw [zm_77]; rfl) (by rw [zm_77]; exact Nat.le_of_ble_eq_true rfl) (Nat.le_of_ble_eq_true rfl) (G_X5_endPart (by omega) l1 q8 q9 hq9) rfl ?_
      show zzEv _ _ _ _ [] _ _
      refine ev_iinc (v := 1) zo_41_57 rfl (by decide) (zz_set rfl (by decide) (Nat.le_of_ble_eq_true rfl)) rfl ?_
      show zzEv _ _ _ [.ref 5, .int (l1 + 1)] _ _ _
      refine ev_goto (t := 23) zo_41_60 rfl ?_
      exact ih (l1 + 1) q9 r h
    rw [if_neg c3] at h
    refine ev_cmp_t (t := 63) zo_41_25 rfl (zcm_ge c3) ?_
    refine ev_aload_n zo_41_63 rfl rfl rfl rfl ?_
    refine ev_getI zo_41_64 zf_41_51 (by decide) (Or.inl rfl) rfl rfl ?_
    refine ev_iconst (x := (-1)) zo_41_67 (by decide) rfl ?_
    by_cases c4 : (J.2 5 5) = (-1 : Int32)
    · rw [if_pos c4] at h
      refine ev_cmp_t (t := 75) zo_41_68 rfl (zcm_eq c4) ?_
      exact G_X2_read_75 hd J r h (.int l1) rfl
    rw [if_neg c4] at h
    refine ev_cmp_f (t := 75) zo_41_68 rfl (zcm_neq c4) rfl ?_
    refine ev_aload_n zo_41_71 rfl rfl rfl rfl ?_
    obtain ⟨q5, hq5, h⟩ := zz_bd h
    refine ev_cV (as := []) (lsn := [.ref 5]) (by omega) zo_41_72 zl_41_54 (by rw [zm_50]; rfl) (by rw [zm_50]; exact rfl) (by rw [zm_50]; decide) (by unfold zzIn; rw [zm_50]; rfl) (by rw [zm_50]; exact Nat.le_of_ble_eq_true rfl) (Nat.le_of_ble_eq_true rfl) (G_X2_fail (by omega) J q5 hq5) rfl ?_
    show zzEv _ _ _ _ [] _ _
    exact G_X2_read_75 hd q5 r h (.int l1) rfl
def F_X2_read (J : zzJ) : Option (Int32 × zzJ) := (Option.bind (F_X5_startDraft (wI (wI J 5 4 (0 : Int32)) 5 6 (-1 : Int32))) fun q10 => (Option.bind (F_X2_advance q10) fun q11 => F_X2_read_23 4096 (0 : Int32) q11))
set_option maxRecDepth 100000 in
set_option maxHeartbeats 2000000 in
theorem G_X2_read {d : Nat} (hd : 99 ≤ d) (J : zzJ) (r : Int32 × zzJ) (h : F_X2_read J = some r) : zzEv d 41 0 [.ref 5, zzU] [] (zK J) (some (.int r.1), zK r.2) := by
  unfold F_X2_read at h
  refine ev_aload_n zo_41_0 rfl rfl rfl rfl ?_
  refine ev_iconst (x := 0) zo_41_1 (by decide) rfl ?_
  refine ev_putI zo_41_2 zf_41_30 (by decide) rfl rfl rfl rfl ?_
  refine ev_aload_n zo_41_5 rfl rfl rfl rfl ?_
  refine ev_iconst (x := (-1)) zo_41_6 (by decide) rfl ?_
  refine ev_putI zo_41_7 zf_41_23 (by decide) rfl rfl rfl rfl ?_
  refine ev_aload_n zo_41_10 rfl rfl rfl rfl ?_
  refine ev_getR zo_41_11 zf_41_9 (by decide) rfl rfl rfl rfl ?_
  obtain ⟨q10, hq10, h⟩ := zz_bd h
  refine ev_cV (as := []) (lsn := [.ref 1]) (by omega) zo_41_14 zl_41_33 (by rw [zm_75]; rfl) (by rw [zm_75]; exact rfl) (by rw [zm_75]; decide) (by unfold zzIn; rw [zm_75]; rfl) (by rw [zm_75]; exact Nat.le_of_ble_eq_true rfl) (Nat.le_of_ble_eq_true rfl) (G_X5_startDraft (by omega) (wI (wI J 5 4 (0 : Int32)) 5 6 (-1 : Int32)) q10 hq10) rfl ?_
  show zzEv _ _ _ _ [] _ _
  refine ev_aload_n zo_41_17 rfl rfl rfl rfl ?_
  obtain ⟨q11, hq11, h⟩ := zz_bd h
  refine ev_cV (as := []) (lsn := [.ref 5, zzU]) (by omega) zo_41_18 zl_41_38 (by rw [zm_51]; rfl) (by rw [zm_51]; exact rfl) (by rw [zm_51]; decide) (by unfold zzIn; rw [zm_51]; rfl) (by rw [zm_51]; exact Nat.le_of_ble_eq_true rfl) (Nat.le_of_ble_eq_true rfl) (G_X2_advance (by omega) q10 q11 hq11) rfl ?_
  show zzEv _ _ _ _ [] _ _
  refine ev_iconst (x := 0) zo_41_21 (by decide) rfl ?_
  refine ev_istore_n zo_41_22 rfl (zz_set rfl (by decide) (Nat.le_of_ble_eq_true rfl)) rfl ?_
  show zzEv _ _ _ [.ref 5, .int (0 : Int32)] _ _ _
  exact G_X2_read_23 hd 4096 (0 : Int32) q11 r h
/-! X3_plan -/
def F_X3_plan_31 (kl_23 : Nat → Int32 → Int32 → zzJ → Option (zzJ)) : Nat → Nat → Int32 → Int32 → Int32 → zzJ → Option (zzJ)
  | 0, _, _, _, _, _ => none
  | n + 1, l1, l2, l3, l4, J => (if l4 < (J.2 28 5) then (if zKd l1 = 0 then (Option.bind (F_X0_queasy l1 l4 ((J.2 l1 1) + l3) J) fun q3 => (Option.bind (F_X6_put 29 ((l3 * (8 : Int32)) + l4) q3.1 q3.2) fun q4 => F_X3_plan_31 kl_23 n l1 l2 l3 (l4 + 1) q4)) else none) else kl_23 l1 l2 (l3 + 1) J)
set_option maxRecDepth 100000 in
set_option maxHeartbeats 2000000 in
theorem G_X3_plan_31 {d : Nat} (kl_23 : Nat → Int32 → Int32 → zzJ → Option (zzJ)) (hkl_23 : ∀ (l1 : Nat) (l2 : Int32) (l3 : Int32) (J : zzJ) (r : zzJ), kl_23 l1 l2 l3 J = some r → ∀ (lv4 : Value) (hlv4 : lv4.category = 1), zzEv d 62 23 [.ref 28, .ref l1, .int l2, .int l3, lv4] [] (zK J) (none, zK r)) (hd : 4 ≤ d) : ∀ (n : Nat) (l1 : Nat) (l2 : Int32) (l3 : Int32) (l4 : Int32) (J : zzJ) (r : zzJ), F_X3_plan_31 kl_23 n l1 l2 l3 l4 J = some r → zzEv d 62 31 [.ref 28, .ref l1, .int l2, .int l3, .int l4] [] (zK J) (none, zK r) := by
  intro n
  induction n with
  | zero => intro l1 l2 l3 l4 J r h; simp [F_X3_plan_31] at h
  | succ n ih =>
    intro l1 l2 l3 l4 J r h
    rw [F_X3_plan_31] at h
    refine ev_iload zo_62_31 rfl rfl ?_
    refine ev_aload_n zo_62_33 rfl rfl rfl rfl ?_
    refine ev_getI zo_62_34 zf_62_33 (by decide) (Or.inl rfl) rfl rfl ?_
    by_cases c1 : l4 < (J.2 28 5)
    · rw [if_pos c1] at h
      refine ev_cmp_f (t := 72) zo_62_37 rfl (zcm_nge c1) rfl ?_
      refine ev_aload_n zo_62_40 rfl rfl rfl rfl ?_
      refine ev_getR zo_62_41 zf_62_9 (by decide) rfl rfl rfl rfl ?_
      refine ev_iload_n zo_62_44 rfl rfl rfl ?_
      refine ev_bipush (x := 8) zo_62_45 (by decide) rfl ?_
      refine ev_imul zo_62_47 rfl ?_
      refine ev_iload zo_62_48 rfl rfl ?_
      refine ev_iadd zo_62_50 rfl ?_
      refine ev_aload_n zo_62_51 rfl rfl rfl rfl ?_
      refine ev_iload zo_62_52 rfl rfl ?_
      refine ev_aload_n zo_62_54 rfl rfl rfl rfl ?_
      obtain ⟨c2, h⟩ := zz_chk h
      refine ev_getI zo_62_55 zf_62_38 (by decide) (Or.inl rfl) c2 rfl ?_
      refine ev_iload_n zo_62_58 rfl rfl rfl ?_
      refine ev_iadd zo_62_59 rfl ?_
      obtain ⟨q3, hq3, h⟩ := zz_bd h
      refine ev_cV (as := [.int ((J.2 l1 1) + l3), .int l4]) (lsn := [.ref l1, .int l4, .int ((J.2 l1 1) + l3), zzU]) (by omega) zo_62_60 zl_62_41 (by rw [zm_22]; rfl) (by rw [zm_22]; exact c2) (by rw [zm_22]; decide) (by unfold zzIn; rw [zm_22]; rfl) (by rw [zm_22]; exact Nat.le_of_ble_eq_true rfl) (Nat.le_of_ble_eq_true rfl) (G_X0_queasy (by omega) l1 l4 ((J.2 l1 1) + l3) J q3 hq3) rfl ?_
      show zzEv _ _ _ _ [.int q3.1, .int ((l3 * (8 : Int32)) + l4), .ref 29] _ _
      obtain ⟨q4, hq4, h⟩ := zz_bd h
      refine ev_cS (as := [.int q3.1, .int ((l3 * (8 : Int32)) + l4), .ref 29]) (lsn := [.ref 29, .int ((l3 * (8 : Int32)) + l4), .int q3.1]) (by omega) zo_62_63 zl_62_44 (by decide) (by rw [zm_126]; rfl) (by unfold zzIn; rw [zm_126]; rfl) (by rw [zm_126]; exact Nat.le_of_ble_eq_true rfl) (Nat.le_of_ble_eq_true rfl) (G_X6_put (by omega) 29 ((l3 * (8 : Int32)) + l4) q3.1 q3.2 q4 hq4) rfl ?_
      show zzEv _ _ _ _ [] _ _
      refine ev_iinc (v := 1) zo_62_66 rfl (by decide) (zz_set rfl (by decide) (Nat.le_of_ble_eq_true rfl)) rfl ?_
      show zzEv _ _ _ [.ref 28, .ref l1, .int l2, .int l3, .int (l4 + 1)] _ _ _
      refine ev_goto (t := 31) zo_62_69 rfl ?_
      exact ih l1 l2 l3 (l4 + 1) q4 r h
    rw [if_neg c1] at h
    refine ev_cmp_t (t := 72) zo_62_37 rfl (zcm_ge c1) ?_
    refine ev_iinc (v := 1) zo_62_72 rfl (by decide) (zz_set rfl (by decide) (Nat.le_of_ble_eq_true rfl)) rfl ?_
    show zzEv _ _ _ [.ref 28, .ref l1, .int l2, .int (l3 + 1), .int l4] _ _ _
    refine ev_goto (t := 23) zo_62_75 rfl ?_
    exact hkl_23 l1 l2 (l3 + 1) J r h (.int l4) rfl
def F_X3_plan_23 : Nat → Nat → Int32 → Int32 → zzJ → Option (zzJ)
  | 0, _, _, _, _ => none
  | n + 1, l1, l2, l3, J => (if l3 < l2 then F_X3_plan_31 (F_X3_plan_23 n) 4096 l1 l2 l3 (0 : Int32) J else some J)
set_option maxRecDepth 100000 in
set_option maxHeartbeats 2000000 in
theorem G_X3_plan_23 {d : Nat} (hd : 4 ≤ d) : ∀ (n : Nat) (l1 : Nat) (l2 : Int32) (l3 : Int32) (J : zzJ) (r : zzJ), F_X3_plan_23 n l1 l2 l3 J = some r → ∀ (lv4 : Value) (hlv4 : lv4.category = 1), zzEv d 62 23 [.ref 28, .ref l1, .int l2, .int l3, lv4] [] (zK J) (none, zK r) := by
  intro n
  induction n with
  | zero => intro l1 l2 l3 J r h; simp [F_X3_plan_23] at h
  | succ n ih =>
    intro l1 l2 l3 J r h lv4 hlv4
    rw [F_X3_plan_23] at h
    refine ev_iload_n zo_62_23 rfl rfl rfl ?_
    refine ev_iload_n zo_62_24 rfl rfl rfl ?_
    by_cases c5 : l3 < l2
    · rw [if_pos c5] at h
      refine ev_cmp_f (t := 78) zo_62_25 rfl (zcm_nge c5) rfl ?_
      refine ev_iconst (x := 0) zo_62_28 (by decide) rfl ?_
      refine ev_istore zo_62_29 (zz_set rfl (by decide) (Nat.le_of_ble_eq_true rfl)) rfl ?_
      show zzEv _ _ _ [.ref 28, .ref l1, .int l2, .int l3, .int (0 : Int32)] _ _ _
      exact G_X3_plan_31 (F_X3_plan_23 n) ih hd 4096 l1 l2 l3 (0 : Int32) J r h
    rw [if_neg c5] at h
    refine ev_cmp_t (t := 78) zo_62_25 rfl (zcm_ge c5) ?_
    obtain rfl := Option.some.inj h
    exact ev_retV zo_62_78 zr_62
def F_X3_plan (x1 : Nat) (x2 : Int32) (J : zzJ) : Option (zzJ) := (if zKd x1 = 0 then F_X3_plan_23 4096 x1 x2 (0 : Int32) (wI (wI (wI J 28 4 x2) 28 5 ((wI J 28 4 x2).2 x1 4)) 28 6 ((wI (wI J 28 4 x2) 28 5 ((wI J 28 4 x2).2 x1 4)).2 x1 2)) else none)
set_option maxRecDepth 100000 in
set_option maxHeartbeats 2000000 in
theorem G_X3_plan {d : Nat} (hd : 4 ≤ d) (x1 : Nat) (x2 : Int32) (J : zzJ) (r : zzJ) (h : F_X3_plan x1 x2 J = some r) : zzEv d 62 0 [.ref 28, .ref x1, .int x2, zzU, zzU] [] (zK J) (none, zK r) := by
  unfold F_X3_plan at h
  refine ev_aload_n zo_62_0 rfl rfl rfl rfl ?_
  refine ev_iload_n zo_62_1 rfl rfl rfl ?_
  refine ev_putI zo_62_2 zf_62_24 (by decide) rfl rfl rfl rfl ?_
  refine ev_aload_n zo_62_5 rfl rfl rfl rfl ?_
  refine ev_aload_n zo_62_6 rfl rfl rfl rfl ?_
  obtain ⟨c6, h⟩ := zz_chk h
  refine ev_getI zo_62_7 zf_62_28 (by decide) (Or.inl rfl) c6 rfl ?_
  refine ev_putI zo_62_10 zf_62_33 (by decide) rfl rfl rfl rfl ?_
  refine ev_aload_n zo_62_13 rfl rfl rfl rfl ?_
  refine ev_aload_n zo_62_14 rfl rfl rfl rfl ?_
  refine ev_getI zo_62_15 zf_62_34 (by decide) (Or.inl rfl) c6 rfl ?_
  refine ev_putI zo_62_18 zf_62_37 (by decide) rfl rfl rfl rfl ?_
  refine ev_iconst (x := 0) zo_62_21 (by decide) rfl ?_
  refine ev_istore_n zo_62_22 rfl (zz_set rfl (by decide) (Nat.le_of_ble_eq_true rfl)) rfl ?_
  show zzEv _ _ _ [.ref 28, .ref x1, .int x2, .int (0 : Int32), zzU] _ _ _
  exact G_X3_plan_23 hd 4096 x1 x2 (0 : Int32) (wI (wI (wI J 28 4 x2) 28 5 ((wI J 28 4 x2).2 x1 4)) 28 6 ((wI (wI J 28 4 x2) 28 5 ((wI J 28 4 x2).2 x1 4)).2 x1 2)) r h (zzU) rfl
/-! X3_noteSick -/
def F_X3_noteSick_20 (l1 : Int32) (J : zzJ) : Option (zzJ) := (Option.bind (F_X6_itemAt 32 l1 J) fun q1 => (Option.bind (F_X6_put 32 l1 (q1.1 + (1 : Int32)) q1.2) fun q2 => some q2))
set_option maxRecDepth 100000 in
set_option maxHeartbeats 2000000 in
theorem G_X3_noteSick_20 {d : Nat} (hd : 1 ≤ d) : ∀ (l1 : Int32) (J : zzJ) (r : zzJ), F_X3_noteSick_20 l1 J = some r → ∀ (lv2 : Value) (hlv2 : lv2.category = 1), zzEv d 65 20 [.ref 28, .int l1, lv2] [] (zK J) (none, zK r) := by
  intro l1 J r h lv2 hlv2
  unfold F_X3_noteSick_20 at h
  refine ev_aload_n zo_65_20 rfl rfl rfl rfl ?_
  refine ev_getR zo_65_21 zf_65_21 (by decide) rfl rfl rfl rfl ?_
  refine ev_iload_n zo_65_24 rfl rfl rfl ?_
  refine ev_aload_n zo_65_25 rfl rfl rfl rfl ?_
  refine ev_getR zo_65_26 zf_65_21 (by decide) rfl rfl rfl rfl ?_
  refine ev_iload_n zo_65_29 rfl rfl rfl ?_
  obtain ⟨q1, hq1, h⟩ := zz_bd h
  refine ev_cS (as := [.int l1, .ref 32]) (lsn := [.ref 32, .int l1]) (by omega) zo_65_30 zl_65_56 (by decide) (by rw [zm_125]; rfl) (by unfold zzIn; rw [zm_125]; rfl) (by rw [zm_125]; exact Nat.le_of_ble_eq_true rfl) (Nat.le_of_ble_eq_true rfl) (G_X6_itemAt (by omega) 32 l1 J q1 hq1) rfl ?_
  show zzEv _ _ _ _ [.int q1.1, .int l1, .ref 32] _ _
  refine ev_iconst (x := 1) zo_65_33 (by decide) rfl ?_
  refine ev_iadd zo_65_34 rfl ?_
  obtain ⟨q2, hq2, h⟩ := zz_bd h
  refine ev_cS (as := [.int (q1.1 + (1 : Int32)), .int l1, .ref 32]) (lsn := [.ref 32, .int l1, .int (q1.1 + (1 : Int32))]) (by omega) zo_65_35 zl_65_44 (by decide) (by rw [zm_126]; rfl) (by unfold zzIn; rw [zm_126]; rfl) (by rw [zm_126]; exact Nat.le_of_ble_eq_true rfl) (Nat.le_of_ble_eq_true rfl) (G_X6_put (by omega) 32 l1 (q1.1 + (1 : Int32)) q1.2 q2 hq2) rfl ?_
  show zzEv _ _ _ _ [] _ _
  obtain rfl := Option.some.inj h
  exact ev_retV zo_65_38 zr_65
def F_X3_noteSick (x1 : Int32) (x2 : Int32) (J : zzJ) : Option (zzJ) := (Option.bind (F_X6_itemAt 32 x1 J) fun q3 => (if q3.1 = (0 : Int32) then (Option.bind (F_X6_put 31 x1 x2 q3.2) fun q5 => F_X3_noteSick_20 x1 q5) else F_X3_noteSick_20 x1 q3.2))
set_option maxRecDepth 100000 in
set_option maxHeartbeats 2000000 in
theorem G_X3_noteSick {d : Nat} (hd : 1 ≤ d) (x1 : Int32) (x2 : Int32) (J : zzJ) (r : zzJ) (h : F_X3_noteSick x1 x2 J = some r) : zzEv d 65 0 [.ref 28, .int x1, .int x2] [] (zK J) (none, zK r) := by
  unfold F_X3_noteSick at h
  refine ev_aload_n zo_65_0 rfl rfl rfl rfl ?_
  refine ev_getR zo_65_1 zf_65_21 (by decide) rfl rfl rfl rfl ?_
  refine ev_iload_n zo_65_4 rfl rfl rfl ?_
  obtain ⟨q3, hq3, h⟩ := zz_bd h
  refine ev_cS (as := [.int x1, .ref 32]) (lsn := [.ref 32, .int x1]) (by omega) zo_65_5 zl_65_56 (by decide) (by rw [zm_125]; rfl) (by unfold zzIn; rw [zm_125]; rfl) (by rw [zm_125]; exact Nat.le_of_ble_eq_true rfl) (Nat.le_of_ble_eq_true rfl) (G_X6_itemAt (by omega) 32 x1 J q3 hq3) rfl ?_
  show zzEv _ _ _ _ [.int q3.1] _ _
  by_cases c4 : q3.1 = (0 : Int32)
  · rw [if_pos c4] at h
    refine ev_if_f (t := 20) zo_65_8 rfl (zcm_nne c4) rfl ?_
    refine ev_aload_n zo_65_11 rfl rfl rfl rfl ?_
    refine ev_getR zo_65_12 zf_65_18 (by decide) rfl rfl rfl rfl ?_
    refine ev_iload_n zo_65_15 rfl rfl rfl ?_
    refine ev_iload_n zo_65_16 rfl rfl rfl ?_
    obtain ⟨q5, hq5, h⟩ := zz_bd h
    refine ev_cS (as := [.int x2, .int x1, .ref 31]) (lsn := [.ref 31, .int x1, .int x2]) (by omega) zo_65_17 zl_65_44 (by decide) (by rw [zm_126]; rfl) (by unfold zzIn; rw [zm_126]; rfl) (by rw [zm_126]; exact Nat.le_of_ble_eq_true rfl) (Nat.le_of_ble_eq_true rfl) (G_X6_put (by omega) 31 x1 x2 q3.2 q5 hq5) rfl ?_
    show zzEv _ _ _ _ [] _ _
    exact G_X3_noteSick_20 hd x1 q5 r h (.int x2) rfl
  rw [if_neg c4] at h
  refine ev_if_t (t := 20) zo_65_8 rfl (zcm_ne c4) ?_
  exact G_X3_noteSick_20 hd x1 q3.2 r h (.int x2) rfl
/-! X3_sickIn -/
def F_X3_sickIn_68 (kl_4 : Int32 → Int32 → Int32 → zzJ → Option (Int32 × zzJ)) (l1 : Int32) (l2 : Int32) (l3 : Int32) (l5 : Int32) (t0 : Int32) (t1 : Int32) (J : zzJ) : Option (Int32 × zzJ) := (Option.bind (F_X6_put 30 t1 t0 J) fun q1 => (if l5 = (0 : Int32) then kl_4 l1 l2 (l3 + 1) q1 else (Option.bind (F_X3_noteSick l3 l1 q1) fun q3 => kl_4 l1 (l2 + 1) (l3 + 1) q3)))
set_option maxRecDepth 100000 in
set_option maxHeartbeats 2000000 in
theorem G_X3_sickIn_68 {d : Nat} (kl_4 : Int32 → Int32 → Int32 → zzJ → Option (Int32 × zzJ)) (hkl_4 : ∀ (l1 : Int32) (l2 : Int32) (l3 : Int32) (J : zzJ) (r : Int32 × zzJ), kl_4 l1 l2 l3 J = some r → ∀ (lv4 : Value) (hlv4 : lv4.category = 1), ∀ (lv5 : Value) (hlv5 : lv5.category = 1), zzEv d 64 4 [.ref 28, .int l1, .int l2, .int l3, lv4, lv5] [] (zK J) (some (.int r.1), zK r.2)) (hd : 2 ≤ d) : ∀ (l1 : Int32) (l2 : Int32) (l3 : Int32) (l5 : Int32) (t0 : Int32) (t1 : Int32) (J : zzJ) (r : Int32 × zzJ), F_X3_sickIn_68 kl_4 l1 l2 l3 l5 t0 t1 J = some r → ∀ (lv4 : Value) (hlv4 : lv4.category = 1), zzEv d 64 68 [.ref 28, .int l1, .int l2, .int l3, lv4, .int l5] [.int t0, .int t1, .ref 30] (zK J) (some (.int r.1), zK r.2) := by
  intro l1 l2 l3 l5 t0 t1 J r h lv4 hlv4
  unfold F_X3_sickIn_68 at h
  obtain ⟨q1, hq1, h⟩ := zz_bd h
  refine ev_cS (as := [.int t0, .int t1, .ref 30]) (lsn := [.ref 30, .int t1, .int t0]) (by omega) zo_64_68 zl_64_44 (by decide) (by rw [zm_126]; rfl) (by unfold zzIn; rw [zm_126]; rfl) (by rw [zm_126]; exact Nat.le_of_ble_eq_true rfl) (Nat.le_of_ble_eq_true rfl) (G_X6_put (by omega) 30 t1 t0 J q1 hq1) rfl ?_
  show zzEv _ _ _ _ [] _ _
  refine ev_iload zo_64_71 rfl rfl ?_
  by_cases c2 : l5 = (0 : Int32)
  · rw [if_pos c2] at h
    refine ev_if_t (t := 85) zo_64_73 rfl (zcm_eq c2) ?_
    refine ev_iinc (v := 1) zo_64_85 rfl (by decide) (zz_set rfl (by decide) (Nat.le_of_ble_eq_true rfl)) rfl ?_
    show zzEv _ _ _ [.ref 28, .int l1, .int l2, .int (l3 + 1), lv4, .int l5] _ _ _
    refine ev_goto (t := 4) zo_64_88 rfl ?_
    exact hkl_4 l1 l2 (l3 + 1) q1 r h (lv4) hlv4 (.int l5) rfl
  rw [if_neg c2] at h
  refine ev_if_f (t := 85) zo_64_73 rfl (zcm_neq c2) rfl ?_
  refine ev_iinc (v := 1) zo_64_76 rfl (by decide) (zz_set rfl (by decide) (Nat.le_of_ble_eq_true rfl)) rfl ?_
  show zzEv _ _ _ [.ref 28, .int l1, .int (l2 + 1), .int l3, lv4, .int l5] _ _ _
  refine ev_aload_n zo_64_79 rfl rfl rfl rfl ?_
  refine ev_iload_n zo_64_80 rfl rfl rfl ?_
  refine ev_iload_n zo_64_81 rfl rfl rfl ?_
  obtain ⟨q3, hq3, h⟩ := zz_bd h
  refine ev_cV (as := [.int l1, .int l3]) (lsn := [.ref 28, .int l3, .int l1]) (by omega) zo_64_82 zl_64_60 (by rw [zm_65]; rfl) (by rw [zm_65]; exact rfl) (by rw [zm_65]; decide) (by unfold zzIn; rw [zm_65]; rfl) (by rw [zm_65]; exact Nat.le_of_ble_eq_true rfl) (Nat.le_of_ble_eq_true rfl) (G_X3_noteSick (by omega) l3 l1 q1 q3 hq3) rfl ?_
  show zzEv _ _ _ _ [] _ _
  refine ev_iinc (v := 1) zo_64_85 rfl (by decide) (zz_set rfl (by decide) (Nat.le_of_ble_eq_true rfl)) rfl ?_
  show zzEv _ _ _ [.ref 28, .int l1, .int (l2 + 1), .int (l3 + 1), lv4, .int l5] _ _ _
  refine ev_goto (t := 4) zo_64_88 rfl ?_
  exact hkl_4 l1 (l2 + 1) (l3 + 1) q3 r h (lv4) hlv4 (.int l5) rfl
def F_X3_sickIn_50 (kl_4 : Int32 → Int32 → Int32 → zzJ → Option (Int32 × zzJ)) (l1 : Int32) (l2 : Int32) (l3 : Int32) (l4 : Int32) (t0 : Int32) (J : zzJ) : Option (Int32 × zzJ) := (if t0 = (0 : Int32) then F_X3_sickIn_68 kl_4 l1 l2 l3 t0 l4 l3 J else F_X3_sickIn_68 kl_4 l1 l2 l3 t0 (0 : Int32) l3 J)
set_option maxRecDepth 100000 in
set_option maxHeartbeats 2000000 in
theorem G_X3_sickIn_50 {d : Nat} (kl_4 : Int32 → Int32 → Int32 → zzJ → Option (Int32 × zzJ)) (hkl_4 : ∀ (l1 : Int32) (l2 : Int32) (l3 : Int32) (J : zzJ) (r : Int32 × zzJ), kl_4 l1 l2 l3 J = some r → ∀ (lv4 : Value) (hlv4 : lv4.category = 1), ∀ (lv5 : Value) (hlv5 : lv5.category = 1), zzEv d 64 4 [.ref 28, .int l1, .int l2, .int l3, lv4, lv5] [] (zK J) (some (.int r.1), zK r.2)) (hd : 2 ≤ d) : ∀ (l1 : Int32) (l2 : Int32) (l3 : Int32) (l4 : Int32) (t0 : Int32) (J : zzJ) (r : Int32 × zzJ), F_X3_sickIn_50 kl_4 l1 l2 l3 l4 t0 J = some r → ∀ (lv5 : Value) (hlv5 : lv5.category = 1), zzEv d 64 50 [.ref 28, .int l1, .int l2, .int l3, .int l4, lv5] [.int t0] (zK J) (some (.int r.1), zK r.2) := by
  intro l1 l2 l3 l4 t0 J r h lv5 hlv5
  unfold F_X3_sickIn_50 at h
  refine ev_istore zo_64_50 (zz_set rfl (by decide) (Nat.le_of_ble_eq_true rfl)) rfl ?_
  show zzEv _ _ _ [.ref 28, .int l1, .int l2, .int l3, .int l4, .int t0] _ _ _
  refine ev_aload_n zo_64_52 rfl rfl rfl rfl ?_
  refine ev_getR zo_64_53 zf_64_15 (by decide) rfl rfl rfl rfl ?_
  refine ev_iload_n zo_64_56 rfl rfl rfl ?_
  refine ev_iload zo_64_57 rfl rfl ?_
  by_cases c4 : t0 = (0 : Int32)
  · rw [if_pos c4] at h
    refine ev_if_t (t := 66) zo_64_59 rfl (zcm_eq c4) ?_
    refine ev_iload zo_64_66 rfl rfl ?_
    exact G_X3_sickIn_68 kl_4 hkl_4 hd l1 l2 l3 t0 l4 l3 J r h (.int l4) rfl
  rw [if_neg c4] at h
  refine ev_if_f (t := 66) zo_64_59 rfl (zcm_neq c4) rfl ?_
  refine ev_iconst (x := 0) zo_64_62 (by decide) rfl ?_
  refine ev_goto (t := 68) zo_64_63 rfl ?_
  exact G_X3_sickIn_68 kl_4 hkl_4 hd l1 l2 l3 t0 (0 : Int32) l3 J r h (.int l4) rfl
def F_X3_sickIn_4 : Nat → Int32 → Int32 → Int32 → zzJ → Option (Int32 × zzJ)
  | 0, _, _, _, _ => none
  | n + 1, l1, l2, l3, J => (if l3 < (J.2 28 5) then (Option.bind (F_X6_itemAt 30 l3 J) fun q6 => (Option.bind (F_X6_itemAt 29 ((l1 * (8 : Int32)) + l3) q6.2) fun q7 => (if (q7.2.2 28 6) < (q6.1 + q7.1) then F_X3_sickIn_50 (F_X3_sickIn_4 n) l1 l2 l3 (q6.1 + q7.1) (1 : Int32) q7.2 else F_X3_sickIn_50 (F_X3_sickIn_4 n) l1 l2 l3 (q6.1 + q7.1) (0 : Int32) q7.2))) else some (l2, J))
set_option maxRecDepth 100000 in
set_option maxHeartbeats 2000000 in
theorem G_X3_sickIn_4 {d : Nat} (hd : 2 ≤ d) : ∀ (n : Nat) (l1 : Int32) (l2 : Int32) (l3 : Int32) (J : zzJ) (r : Int32 × zzJ), F_X3_sickIn_4 n l1 l2 l3 J = some r → ∀ (lv4 : Value) (hlv4 : lv4.category = 1), ∀ (lv5 : Value) (hlv5 : lv5.category = 1), zzEv d 64 4 [.ref 28, .int l1, .int l2, .int l3, lv4, lv5] [] (zK J) (some (.int r.1), zK r.2) := by
  intro n
  induction n with
  | zero => intro l1 l2 l3 J r h; simp [F_X3_sickIn_4] at h
  | succ n ih =>
    intro l1 l2 l3 J r h lv4 hlv4 lv5 hlv5
    rw [F_X3_sickIn_4] at h
    refine ev_iload_n zo_64_4 rfl rfl rfl ?_
    refine ev_aload_n zo_64_5 rfl rfl rfl rfl ?_
    refine ev_getI zo_64_6 zf_64_33 (by decide) (Or.inl rfl) rfl rfl ?_
    by_cases c5 : l3 < (J.2 28 5)
    · rw [if_pos c5] at h
      refine ev_cmp_f (t := 91) zo_64_9 rfl (zcm_nge c5) rfl ?_
      refine ev_aload_n zo_64_12 rfl rfl rfl rfl ?_
      refine ev_getR zo_64_13 zf_64_15 (by decide) rfl rfl rfl rfl ?_
      refine ev_iload_n zo_64_16 rfl rfl rfl ?_
      obtain ⟨q6, hq6, h⟩ := zz_bd h
      refine ev_cS (as := [.int l3, .ref 30]) (lsn := [.ref 30, .int l3]) (by omega) zo_64_17 zl_64_56 (by decide) (by rw [zm_125]; rfl) (by unfold zzIn; rw [zm_125]; rfl) (by rw [zm_125]; exact Nat.le_of_ble_eq_true rfl) (Nat.le_of_ble_eq_true rfl) (G_X6_itemAt (by omega) 30 l3 J q6 hq6) rfl ?_
      show zzEv _ _ _ _ [.int q6.1] _ _
      refine ev_aload_n zo_64_20 rfl rfl rfl rfl ?_
      refine ev_getR zo_64_21 zf_64_9 (by decide) rfl rfl rfl rfl ?_
      refine ev_iload_n zo_64_24 rfl rfl rfl ?_
      refine ev_bipush (x := 8) zo_64_25 (by decide) rfl ?_
      refine ev_imul zo_64_27 rfl ?_
      refine ev_iload_n zo_64_28 rfl rfl rfl ?_
      refine ev_iadd zo_64_29 rfl ?_
      obtain ⟨q7, hq7, h⟩ := zz_bd h
      refine ev_cS (as := [.int ((l1 * (8 : Int32)) + l3), .ref 29]) (lsn := [.ref 29, .int ((l1 * (8 : Int32)) + l3)]) (by omega) zo_64_30 zl_64_56 (by decide) (by rw [zm_125]; rfl) (by unfold zzIn; rw [zm_125]; rfl) (by rw [zm_125]; exact Nat.le_of_ble_eq_true rfl) (Nat.le_of_ble_eq_true rfl) (G_X6_itemAt (by omega) 29 ((l1 * (8 : Int32)) + l3) q6.2 q7 hq7) rfl ?_
      show zzEv _ _ _ _ [.int q7.1, .int q6.1] _ _
      refine ev_iadd zo_64_33 rfl ?_
      refine ev_istore zo_64_34 (zz_set rfl (by decide) (Nat.le_of_ble_eq_true rfl)) rfl ?_
      show zzEv _ _ _ [.ref 28, .int l1, .int l2, .int l3, .int (q6.1 + q7.1), lv5] _ _ _
      refine ev_iload zo_64_36 rfl rfl ?_
      refine ev_aload_n zo_64_38 rfl rfl rfl rfl ?_
      refine ev_getI zo_64_39 zf_64_37 (by decide) (Or.inl rfl) rfl rfl ?_
      by_cases c8 : (q7.2.2 28 6) < (q6.1 + q7.1)
      · rw [if_pos c8] at h
        refine ev_cmp_f (t := 49) zo_64_42 rfl (zcm_nle c8) rfl ?_
        refine ev_iconst (x := 1) zo_64_45 (by decide) rfl ?_
        refine ev_goto (t := 50) zo_64_46 rfl ?_
        exact G_X3_sickIn_50 (F_X3_sickIn_4 n) ih hd l1 l2 l3 (q6.1 + q7.1) (1 : Int32) q7.2 r h (lv5) hlv5
      rw [if_neg c8] at h
      refine ev_cmp_t (t := 49) zo_64_42 rfl (zcm_le c8) ?_
      refine ev_iconst (x := 0) zo_64_49 (by decide) rfl ?_
      exact G_X3_sickIn_50 (F_X3_sickIn_4 n) ih hd l1 l2 l3 (q6.1 + q7.1) (0 : Int32) q7.2 r h (lv5) hlv5
    rw [if_neg c5] at h
    refine ev_cmp_t (t := 91) zo_64_9 rfl (zcm_ge c5) ?_
    refine ev_iload_n zo_64_91 rfl rfl rfl ?_
    obtain rfl := Option.some.inj h
    exact ev_retI zo_64_92 zr_64
def F_X3_sickIn (x1 : Int32) (J : zzJ) : Option (Int32 × zzJ) := F_X3_sickIn_4 4096 x1 (0 : Int32) (0 : Int32) J
set_option maxRecDepth 100000 in
set_option maxHeartbeats 2000000 in
theorem G_X3_sickIn {d : Nat} (hd : 2 ≤ d) (x1 : Int32) (J : zzJ) (r : Int32 × zzJ) (h : F_X3_sickIn x1 J = some r) : zzEv d 64 0 [.ref 28, .int x1, zzU, zzU, zzU, zzU] [] (zK J) (some (.int r.1), zK r.2) := by
  unfold F_X3_sickIn at h
  refine ev_iconst (x := 0) zo_64_0 (by decide) rfl ?_
  refine ev_istore_n zo_64_1 rfl (zz_set rfl (by decide) (Nat.le_of_ble_eq_true rfl)) rfl ?_
  show zzEv _ _ _ [.ref 28, .int x1, .int (0 : Int32), zzU, zzU, zzU] _ _ _
  refine ev_iconst (x := 0) zo_64_2 (by decide) rfl ?_
  refine ev_istore_n zo_64_3 rfl (zz_set rfl (by decide) (Nat.le_of_ble_eq_true rfl)) rfl ?_
  show zzEv _ _ _ [.ref 28, .int x1, .int (0 : Int32), .int (0 : Int32), zzU, zzU] _ _ _
  exact G_X3_sickIn_4 hd 4096 x1 (0 : Int32) (0 : Int32) J r h (zzU) rfl (zzU) rfl
/-! X6_fill -/
def F_X6_fill_2 : Nat → Nat → Int32 → Int32 → zzJ → Option (zzJ)
  | 0, _, _, _, _ => none
  | n + 1, l0, l1, l2, J => (if 8 ≤ zKd l0 ∧ zKd l0 ≤ 10 then (if l2 < (Int32.ofNat (zSz l0)) then (if zKd l0 = 8 then (if zzIx l2 (zSz l0) then F_X6_fill_2 n l0 l1 (l2 + 1) (wI J l0 l2.toNatClampNeg l1) else none) else none) else some J) else none)
set_option maxRecDepth 100000 in
set_option maxHeartbeats 2000000 in
theorem G_X6_fill_2 {d : Nat} (hd : 0 ≤ d) : ∀ (n : Nat) (l0 : Nat) (l1 : Int32) (l2 : Int32) (J : zzJ) (r : zzJ), F_X6_fill_2 n l0 l1 l2 J = some r → zzEv d 128 2 [.ref l0, .int l1, .int l2] [] (zK J) (none, zK r) := by
  intro n
  induction n with
  | zero => intro l0 l1 l2 J r h; simp [F_X6_fill_2] at h
  | succ n ih =>
    intro l0 l1 l2 J r h
    rw [F_X6_fill_2] at h
    refine ev_iload_n zo_128_2 rfl rfl rfl ?_
    refine ev_aload_n zo_128_3 rfl rfl rfl rfl ?_
    obtain ⟨c1, h⟩ := zz_chk h
    refine ev_alen zo_128_4 c1 rfl ?_
    by_cases c2 : l2 < (Int32.ofNat (zSz l0))
    · rw [if_pos c2] at h
      refine ev_cmp_f (t := 18) zo_128_5 rfl (zcm_nge c2) rfl ?_
      refine ev_aload_n zo_128_8 rfl rfl rfl rfl ?_
      refine ev_iload_n zo_128_9 rfl rfl rfl ?_
      refine ev_iload_n zo_128_10 rfl rfl rfl ?_
      obtain ⟨c3, h⟩ := zz_chk h
      obtain ⟨c4, h⟩ := zz_chk h
      refine ev_iast zo_128_11 c3 c4 rfl ?_
      refine ev_iinc (v := 1) zo_128_12 rfl (by decide) (zz_set rfl (by decide) (Nat.le_of_ble_eq_true rfl)) rfl ?_
      show zzEv _ _ _ [.ref l0, .int l1, .int (l2 + 1)] _ _ _
      refine ev_goto (t := 2) zo_128_15 rfl ?_
      exact ih l0 l1 (l2 + 1) (wI J l0 l2.toNatClampNeg l1) r h
    rw [if_neg c2] at h
    refine ev_cmp_t (t := 18) zo_128_5 rfl (zcm_ge c2) ?_
    obtain rfl := Option.some.inj h
    exact ev_retV zo_128_18 zr_128
def F_X6_fill (x0 : Nat) (x1 : Int32) (J : zzJ) : Option (zzJ) := F_X6_fill_2 4096 x0 x1 (0 : Int32) J
set_option maxRecDepth 100000 in
set_option maxHeartbeats 2000000 in
theorem G_X6_fill {d : Nat} (hd : 0 ≤ d) (x0 : Nat) (x1 : Int32) (J : zzJ) (r : zzJ) (h : F_X6_fill x0 x1 J = some r) : zzEv d 128 0 [.ref x0, .int x1, zzU] [] (zK J) (none, zK r) := by
  unfold F_X6_fill at h
  refine ev_iconst (x := 0) zo_128_0 (by decide) rfl ?_
  refine ev_istore_n zo_128_1 rfl (zz_set rfl (by decide) (Nat.le_of_ble_eq_true rfl)) rfl ?_
  show zzEv _ _ _ [.ref x0, .int x1, .int (0 : Int32)] _ _ _
  exact G_X6_fill_2 hd 4096 x0 x1 (0 : Int32) J r h
/-! X3_sick -/
def F_X3_sick_28 : Nat → Int32 → Int32 → Int32 → zzJ → Option (Int32 × zzJ)
  | 0, _, _, _, _ => none
  | n + 1, l1, l2, l3, J => (if l3 < (J.2 28 4) then (Option.bind (F_X3_sickIn l3 J) fun q2 => (if l3 = l1 then (Option.bind (F_X6_fill 30 (0 : Int32) q2.2) fun q4 => F_X3_sick_28 n l1 (l2 + q2.1) (l3 + 1) q4) else F_X3_sick_28 n l1 (l2 + q2.1) (l3 + 1) q2.2)) else some (l2, J))
set_option maxRecDepth 100000 in
set_option maxHeartbeats 2000000 in
theorem G_X3_sick_28 {d : Nat} (hd : 3 ≤ d) : ∀ (n : Nat) (l1 : Int32) (l2 : Int32) (l3 : Int32) (J : zzJ) (r : Int32 × zzJ), F_X3_sick_28 n l1 l2 l3 J = some r → zzEv d 63 28 [.ref 28, .int l1, .int l2, .int l3] [] (zK J) (some (.int r.1), zK r.2) := by
  intro n
  induction n with
  | zero => intro l1 l2 l3 J r h; simp [F_X3_sick_28] at h
  | succ n ih =>
    intro l1 l2 l3 J r h
    rw [F_X3_sick_28] at h
    refine ev_iload_n zo_63_28 rfl rfl rfl ?_
    refine ev_aload_n zo_63_29 rfl rfl rfl rfl ?_
    refine ev_getI zo_63_30 zf_63_24 (by decide) (Or.inl rfl) rfl rfl ?_
    by_cases c1 : l3 < (J.2 28 4)
    · rw [if_pos c1] at h
      refine ev_cmp_f (t := 63) zo_63_33 rfl (zcm_nge c1) rfl ?_
      refine ev_iload_n zo_63_36 rfl rfl rfl ?_
      refine ev_aload_n zo_63_37 rfl rfl rfl rfl ?_
      refine ev_iload_n zo_63_38 rfl rfl rfl ?_
      obtain ⟨q2, hq2, h⟩ := zz_bd h
      refine ev_cV (as := [.int l3]) (lsn := [.ref 28, .int l3, zzU, zzU, zzU, zzU]) (by omega) zo_63_39 zl_63_52 (by rw [zm_64]; rfl) (by rw [zm_64]; exact rfl) (by rw [zm_64]; decide) (by unfold zzIn; rw [zm_64]; rfl) (by rw [zm_64]; exact Nat.le_of_ble_eq_true rfl) (Nat.le_of_ble_eq_true rfl) (G_X3_sickIn (by omega) l3 J q2 hq2) rfl ?_
      show zzEv _ _ _ _ [.int q2.1, .int l2] _ _
      refine ev_iadd zo_63_42 rfl ?_
      refine ev_istore_n zo_63_43 rfl (zz_set rfl (by decide) (Nat.le_of_ble_eq_true rfl)) rfl ?_
      show zzEv _ _ _ [.ref 28, .int l1, .int (l2 + q2.1), .int l3] _ _ _
      refine ev_iload_n zo_63_44 rfl rfl rfl ?_
      refine ev_iload_n zo_63_45 rfl rfl rfl ?_
      by_cases c3 : l3 = l1
      · rw [if_pos c3] at h
        refine ev_cmp_f (t := 57) zo_63_46 rfl (zcm_nne c3) rfl ?_
        refine ev_aload_n zo_63_49 rfl rfl rfl rfl ?_
        refine ev_getR zo_63_50 zf_63_15 (by decide) rfl rfl rfl rfl ?_
        refine ev_iconst (x := 0) zo_63_53 (by decide) rfl ?_
        obtain ⟨q4, hq4, h⟩ := zz_bd h
        refine ev_cS (as := [.int (0 : Int32), .ref 30]) (lsn := [.ref 30, .int (0 : Int32), zzU]) (by omega) zo_63_54 zl_63_48 (by decide) (by rw [zm_128]; rfl) (by unfold zzIn; rw [zm_128]; rfl) (by rw [zm_128]; exact Nat.le_of_ble_eq_true rfl) (Nat.le_of_ble_eq_true rfl) (G_X6_fill (by omega) 30 (0 : Int32) q2.2 q4 hq4) rfl ?_
        show zzEv _ _ _ _ [] _ _
        refine ev_iinc (v := 1) zo_63_57 rfl (by decide) (zz_set rfl (by decide) (Nat.le_of_ble_eq_true rfl)) rfl ?_
        show zzEv _ _ _ [.ref 28, .int l1, .int (l2 + q2.1), .int (l3 + 1)] _ _ _
        refine ev_goto (t := 28) zo_63_60 rfl ?_
        exact ih l1 (l2 + q2.1) (l3 + 1) q4 r h
      rw [if_neg c3] at h
      refine ev_cmp_t (t := 57) zo_63_46 rfl (zcm_ne c3) ?_
      refine ev_iinc (v := 1) zo_63_57 rfl (by decide) (zz_set rfl (by decide) (Nat.le_of_ble_eq_true rfl)) rfl ?_
      show zzEv _ _ _ [.ref 28, .int l1, .int (l2 + q2.1), .int (l3 + 1)] _ _ _
      refine ev_goto (t := 28) zo_63_60 rfl ?_
      exact ih l1 (l2 + q2.1) (l3 + 1) q2.2 r h
    rw [if_neg c1] at h
    refine ev_cmp_t (t := 63) zo_63_33 rfl (zcm_ge c1) ?_
    refine ev_iload_n zo_63_63 rfl rfl rfl ?_
    obtain rfl := Option.some.inj h
    exact ev_retI zo_63_64 zr_63
def F_X3_sick (x1 : Int32) (J : zzJ) : Option (Int32 × zzJ) := (Option.bind (F_X6_fill 30 (0 : Int32) J) fun q5 => (Option.bind (F_X6_fill 32 (0 : Int32) q5) fun q6 => (Option.bind (F_X6_fill 31 (-1 : Int32) q6) fun q7 => F_X3_sick_28 4096 x1 (0 : Int32) (0 : Int32) q7)))
set_option maxRecDepth 100000 in
set_option maxHeartbeats 2000000 in
theorem G_X3_sick {d : Nat} (hd : 3 ≤ d) (x1 : Int32) (J : zzJ) (r : Int32 × zzJ) (h : F_X3_sick x1 J = some r) : zzEv d 63 0 [.ref 28, .int x1, zzU, zzU] [] (zK J) (some (.int r.1), zK r.2) := by
  unfold F_X3_sick at h
  refine ev_iconst (x := 0) zo_63_0 (by decide) rfl ?_
  refine ev_istore_n zo_63_1 rfl (zz_set rfl (by decide) (Nat.le_of_ble_eq_true rfl)) rfl ?_
  show zzEv _ _ _ [.ref 28, .int x1, .int (0 : Int32), zzU] _ _ _
  refine ev_aload_n zo_63_2 rfl rfl rfl rfl ?_
  refine ev_getR zo_63_3 zf_63_15 (by decide) rfl rfl rfl rfl ?_
  refine ev_iconst (x := 0) zo_63_6 (by decide) rfl ?_
  obtain ⟨q5, hq5, h⟩ := zz_bd h
  refine ev_cS (as := [.int (0 : Int32), .ref 30]) (lsn := [.ref 30, .int (0 : Int32), zzU]) (by omega) zo_63_7 zl_63_48 (by decide) (by rw [zm_128]; rfl) (by unfold zzIn; rw [zm_128]; rfl) (by rw [zm_128]; exact Nat.le_of_ble_eq_true rfl) (Nat.le_of_ble_eq_true rfl) (G_X6_fill (by omega) 30 (0 : Int32) J q5 hq5) rfl ?_
  show zzEv _ _ _ _ [] _ _
  refine ev_aload_n zo_63_10 rfl rfl rfl rfl ?_
  refine ev_getR zo_63_11 zf_63_21 (by decide) rfl rfl rfl rfl ?_
  refine ev_iconst (x := 0) zo_63_14 (by decide) rfl ?_
  obtain ⟨q6, hq6, h⟩ := zz_bd h
  refine ev_cS (as := [.int (0 : Int32), .ref 32]) (lsn := [.ref 32, .int (0 : Int32), zzU]) (by omega) zo_63_15 zl_63_48 (by decide) (by rw [zm_128]; rfl) (by unfold zzIn; rw [zm_128]; rfl) (by rw [zm_128]; exact Nat.le_of_ble_eq_true rfl) (Nat.le_of_ble_eq_true rfl) (G_X6_fill (by omega) 32 (0 : Int32) q5 q6 hq6) rfl ?_
  show zzEv _ _ _ _ [] _ _
  refine ev_aload_n zo_63_18 rfl rfl rfl rfl ?_
  refine ev_getR zo_63_19 zf_63_18 (by decide) rfl rfl rfl rfl ?_
  refine ev_iconst (x := (-1)) zo_63_22 (by decide) rfl ?_
  obtain ⟨q7, hq7, h⟩ := zz_bd h
  refine ev_cS (as := [.int (-1 : Int32), .ref 31]) (lsn := [.ref 31, .int (-1 : Int32), zzU]) (by omega) zo_63_23 zl_63_48 (by decide) (by rw [zm_128]; rfl) (by unfold zzIn; rw [zm_128]; rfl) (by rw [zm_128]; exact Nat.le_of_ble_eq_true rfl) (Nat.le_of_ble_eq_true rfl) (G_X6_fill (by omega) 31 (-1 : Int32) q6 q7 hq7) rfl ?_
  show zzEv _ _ _ _ [] _ _
  refine ev_iconst (x := 0) zo_63_26 (by decide) rfl ?_
  refine ev_istore_n zo_63_27 rfl (zz_set rfl (by decide) (Nat.le_of_ble_eq_true rfl)) rfl ?_
  show zzEv _ _ _ [.ref 28, .int x1, .int (0 : Int32), .int (0 : Int32)] _ _ _
  exact G_X3_sick_28 hd 4096 x1 (0 : Int32) (0 : Int32) q7 r h
/-! X3_firstSick -/
def F_X3_firstSick_4 : Nat → Int32 → Int32 → zzJ → Option (Int32 × zzJ)
  | 0, _, _, _ => none
  | n + 1, l1, l2, J => (if l2 < (J.2 28 5) then (Option.bind (F_X6_itemAt 32 l2 J) fun q2 => (if (0 : Int32) < q2.1 then (if l1 = (-1 : Int32) then F_X3_firstSick_4 n l2 (l2 + 1) q2.2 else (Option.bind (F_X6_itemAt 31 l2 q2.2) fun q5 => (Option.bind (F_X6_itemAt 31 l1 q5.2) fun q6 => (if q5.1 < q6.1 then F_X3_firstSick_4 n l2 (l2 + 1) q6.2 else F_X3_firstSick_4 n l1 (l2 + 1) q6.2)))) else F_X3_firstSick_4 n l1 (l2 + 1) q2.2)) else some (l1, J))
set_option maxRecDepth 100000 in
set_option maxHeartbeats 2000000 in
theorem G_X3_firstSick_4 {d : Nat} (hd : 1 ≤ d) : ∀ (n : Nat) (l1 : Int32) (l2 : Int32) (J : zzJ) (r : Int32 × zzJ), F_X3_firstSick_4 n l1 l2 J = some r → zzEv d 66 4 [.ref 28, .int l1, .int l2] [] (zK J) (some (.int r.1), zK r.2) := by
  intro n
  induction n with
  | zero => intro l1 l2 J r h; simp [F_X3_firstSick_4] at h
  | succ n ih =>
    intro l1 l2 J r h
    rw [F_X3_firstSick_4] at h
    refine ev_iload_n zo_66_4 rfl rfl rfl ?_
    refine ev_aload_n zo_66_5 rfl rfl rfl rfl ?_
    refine ev_getI zo_66_6 zf_66_33 (by decide) (Or.inl rfl) rfl rfl ?_
    by_cases c1 : l2 < (J.2 28 5)
    · rw [if_pos c1] at h
      refine ev_cmp_f (t := 55) zo_66_9 rfl (zcm_nge c1) rfl ?_
      refine ev_aload_n zo_66_12 rfl rfl rfl rfl ?_
      refine ev_getR zo_66_13 zf_66_21 (by decide) rfl rfl rfl rfl ?_
      refine ev_iload_n zo_66_16 rfl rfl rfl ?_
      obtain ⟨q2, hq2, h⟩ := zz_bd h
      refine ev_cS (as := [.int l2, .ref 32]) (lsn := [.ref 32, .int l2]) (by omega) zo_66_17 zl_66_56 (by decide) (by rw [zm_125]; rfl) (by unfold zzIn; rw [zm_125]; rfl) (by rw [zm_125]; exact Nat.le_of_ble_eq_true rfl) (Nat.le_of_ble_eq_true rfl) (G_X6_itemAt (by omega) 32 l2 J q2 hq2) rfl ?_
      show zzEv _ _ _ _ [.int q2.1] _ _
      by_cases c3 : (0 : Int32) < q2.1
      · rw [if_pos c3] at h
        refine ev_if_f (t := 49) zo_66_20 rfl (zcm_nle c3) rfl ?_
        refine ev_iload_n zo_66_23 rfl rfl rfl ?_
        refine ev_iconst (x := (-1)) zo_66_24 (by decide) rfl ?_
        by_cases c4 : l1 = (-1 : Int32)
        · rw [if_pos c4] at h
          refine ev_cmp_t (t := 47) zo_66_25 rfl (zcm_eq c4) ?_
          refine ev_iload_n zo_66_47 rfl rfl rfl ?_
          refine ev_istore_n zo_66_48 rfl (zz_set rfl (by decide) (Nat.le_of_ble_eq_true rfl)) rfl ?_
          show zzEv _ _ _ [.ref 28, .int l2, .int l2] _ _ _
          refine ev_iinc (v := 1) zo_66_49 rfl (by decide) (zz_set rfl (by decide) (Nat.le_of_ble_eq_true rfl)) rfl ?_
          show zzEv _ _ _ [.ref 28, .int l2, .int (l2 + 1)] _ _ _
          refine ev_goto (t := 4) zo_66_52 rfl ?_
          exact ih l2 (l2 + 1) q2.2 r h
        rw [if_neg c4] at h
        refine ev_cmp_f (t := 47) zo_66_25 rfl (zcm_neq c4) rfl ?_
        refine ev_aload_n zo_66_28 rfl rfl rfl rfl ?_
        refine ev_getR zo_66_29 zf_66_18 (by decide) rfl rfl rfl rfl ?_
        refine ev_iload_n zo_66_32 rfl rfl rfl ?_
        obtain ⟨q5, hq5, h⟩ := zz_bd h
        refine ev_cS (as := [.int l2, .ref 31]) (lsn := [.ref 31, .int l2]) (by omega) zo_66_33 zl_66_56 (by decide) (by rw [zm_125]; rfl) (by unfold zzIn; rw [zm_125]; rfl) (by rw [zm_125]; exact Nat.le_of_ble_eq_true rfl) (Nat.le_of_ble_eq_true rfl) (G_X6_itemAt (by omega) 31 l2 q2.2 q5 hq5) rfl ?_
        show zzEv _ _ _ _ [.int q5.1] _ _
        refine ev_aload_n zo_66_36 rfl rfl rfl rfl ?_
        refine ev_getR zo_66_37 zf_66_18 (by decide) rfl rfl rfl rfl ?_
        refine ev_iload_n zo_66_40 rfl rfl rfl ?_
        obtain ⟨q6, hq6, h⟩ := zz_bd h
        refine ev_cS (as := [.int l1, .ref 31]) (lsn := [.ref 31, .int l1]) (by omega) zo_66_41 zl_66_56 (by decide) (by rw [zm_125]; rfl) (by unfold zzIn; rw [zm_125]; rfl) (by rw [zm_125]; exact Nat.le_of_ble_eq_true rfl) (Nat.le_of_ble_eq_true rfl) (G_X6_itemAt (by omega) 31 l1 q5.2 q6 hq6) rfl ?_
        show zzEv _ _ _ _ [.int q6.1, .int q5.1] _ _
        by_cases c7 : q5.1 < q6.1
        · rw [if_pos c7] at h
          refine ev_cmp_f (t := 49) zo_66_44 rfl (zcm_nge c7) rfl ?_
          refine ev_iload_n zo_66_47 rfl rfl rfl ?_
          refine ev_istore_n zo_66_48 rfl (zz_set rfl (by decide) (Nat.le_of_ble_eq_true rfl)) rfl ?_
          show zzEv _ _ _ [.ref 28, .int l2, .int l2] _ _ _
          refine ev_iinc (v := 1) zo_66_49 rfl (by decide) (zz_set rfl (by decide) (Nat.le_of_ble_eq_true rfl)) rfl ?_
          show zzEv _ _ _ [.ref 28, .int l2, .int (l2 + 1)] _ _ _
          refine ev_goto (t := 4) zo_66_52 rfl ?_
          exact ih l2 (l2 + 1) q6.2 r h
        rw [if_neg c7] at h
        refine ev_cmp_t (t := 49) zo_66_44 rfl (zcm_ge c7) ?_
        refine ev_iinc (v := 1) zo_66_49 rfl (by decide) (zz_set rfl (by decide) (Nat.le_of_ble_eq_true rfl)) rfl ?_
        show zzEv _ _ _ [.ref 28, .int l1, .int (l2 + 1)] _ _ _
        refine ev_goto (t := 4) zo_66_52 rfl ?_
        exact ih l1 (l2 + 1) q6.2 r h
      rw [if_neg c3] at h
      refine ev_if_t (t := 49) zo_66_20 rfl (zcm_le c3) ?_
      refine ev_iinc (v := 1) zo_66_49 rfl (by decide) (zz_set rfl (by decide) (Nat.le_of_ble_eq_true rfl)) rfl ?_
      show zzEv _ _ _ [.ref 28, .int l1, .int (l2 + 1)] _ _ _
      refine ev_goto (t := 4) zo_66_52 rfl ?_
      exact ih l1 (l2 + 1) q2.2 r h
    rw [if_neg c1] at h
    refine ev_cmp_t (t := 55) zo_66_9 rfl (zcm_ge c1) ?_
    refine ev_iload_n zo_66_55 rfl rfl rfl ?_
    obtain rfl := Option.some.inj h
    exact ev_retI zo_66_56 zr_66
def F_X3_firstSick (J : zzJ) : Option (Int32 × zzJ) := F_X3_firstSick_4 4096 (-1 : Int32) (0 : Int32) J
set_option maxRecDepth 100000 in
set_option maxHeartbeats 2000000 in
theorem G_X3_firstSick {d : Nat} (hd : 1 ≤ d) (J : zzJ) (r : Int32 × zzJ) (h : F_X3_firstSick J = some r) : zzEv d 66 0 [.ref 28, zzU, zzU] [] (zK J) (some (.int r.1), zK r.2) := by
  unfold F_X3_firstSick at h
  refine ev_iconst (x := (-1)) zo_66_0 (by decide) rfl ?_
  refine ev_istore_n zo_66_1 rfl (zz_set rfl (by decide) (Nat.le_of_ble_eq_true rfl)) rfl ?_
  show zzEv _ _ _ [.ref 28, .int (-1 : Int32), zzU] _ _ _
  refine ev_iconst (x := 0) zo_66_2 (by decide) rfl ?_
  refine ev_istore_n zo_66_3 rfl (zz_set rfl (by decide) (Nat.le_of_ble_eq_true rfl)) rfl ?_
  show zzEv _ _ _ [.ref 28, .int (-1 : Int32), .int (0 : Int32)] _ _ _
  exact G_X3_firstSick_4 hd 4096 (-1 : Int32) (0 : Int32) J r h
/-! X4_become -/
def F_X4_become (x0 : Nat) (x1 : Int32) (x2 : Int32) (J : zzJ) : Option (zzJ) := (if zKd x0 = 4 then (Option.bind (zMR x0 2) fun b2 => (Option.bind (F_X6_fill b2 (0 : Int32) (wI (wI J x0 0 x1) x0 1 x2)) fun q3 => some q3)) else none)
set_option maxRecDepth 100000 in
set_option maxHeartbeats 2000000 in
theorem G_X4_become {d : Nat} (hd : 1 ≤ d) (x0 : Nat) (x1 : Int32) (x2 : Int32) (J : zzJ) (r : zzJ) (h : F_X4_become x0 x1 x2 J = some r) : zzEv d 68 0 [.ref x0, .int x1, .int x2] [] (zK J) (none, zK r) := by
  unfold F_X4_become at h
  refine ev_aload_n zo_68_0 rfl rfl rfl rfl ?_
  refine ev_iload_n zo_68_1 rfl rfl rfl ?_
  obtain ⟨c1, h⟩ := zz_chk h
  refine ev_putI zo_68_2 zf_68_9 (by decide) rfl rfl c1 rfl ?_
  refine ev_aload_n zo_68_5 rfl rfl rfl rfl ?_
  refine ev_iload_n zo_68_6 rfl rfl rfl ?_
  refine ev_putI zo_68_7 zf_68_15 (by decide) rfl rfl c1 rfl ?_
  refine ev_aload_n zo_68_10 rfl rfl rfl rfl ?_
  obtain ⟨b2, eb2, h⟩ := zz_bd h
  refine ev_getR zo_68_11 zf_68_18 (by decide) rfl c1 eb2 rfl ?_
  refine ev_iconst (x := 0) zo_68_14 (by decide) rfl ?_
  obtain ⟨q3, hq3, h⟩ := zz_bd h
  refine ev_cS (as := [.int (0 : Int32), .ref b2]) (lsn := [.ref b2, .int (0 : Int32), zzU]) (by omega) zo_68_15 zl_68_22 (by decide) (by rw [zm_128]; rfl) (by unfold zzIn; rw [zm_128]; rfl) (by rw [zm_128]; exact Nat.le_of_ble_eq_true rfl) (Nat.le_of_ble_eq_true rfl) (G_X6_fill (by omega) b2 (0 : Int32) (wI (wI J x0 0 x1) x0 1 x2) q3 hq3) rfl ?_
  show zzEv _ _ _ _ [] _ _
  obtain rfl := Option.some.inj h
  exact ev_retV zo_68_18 zr_68
/-! X4_has -/
def F_X4_has (x0 : Nat) (x1 : Int32) (J : zzJ) : Option (Int32 × zzJ) := (if x1 < (0 : Int32) then some ((0 : Int32), J) else (if zKd x0 = 4 then (if x1 < (J.2 x0 1) then some ((1 : Int32), J) else some ((0 : Int32), J)) else none))
set_option maxRecDepth 100000 in
set_option maxHeartbeats 2000000 in
theorem G_X4_has {d : Nat} (hd : 0 ≤ d) (x0 : Nat) (x1 : Int32) (J : zzJ) (r : Int32 × zzJ) (h : F_X4_has x0 x1 J = some r) : zzEv d 70 0 [.ref x0, .int x1] [] (zK J) (some (.int r.1), zK r.2) := by
  unfold F_X4_has at h
  refine ev_iload_n zo_70_0 rfl rfl rfl ?_
  by_cases c1 : x1 < (0 : Int32)
  · rw [if_pos c1] at h
    refine ev_if_t (t := 16) zo_70_1 rfl (zcm_lt c1) ?_
    refine ev_iconst (x := 0) zo_70_16 (by decide) rfl ?_
    obtain rfl := Option.some.inj h
    exact ev_retZ zo_70_17 zr_70 (Or.inl rfl)
  rw [if_neg c1] at h
  refine ev_if_f (t := 16) zo_70_1 rfl (zcm_nlt c1) rfl ?_
  refine ev_iload_n zo_70_4 rfl rfl rfl ?_
  refine ev_aload_n zo_70_5 rfl rfl rfl rfl ?_
  obtain ⟨c2, h⟩ := zz_chk h
  refine ev_getI zo_70_6 zf_70_15 (by decide) (Or.inl rfl) c2 rfl ?_
  by_cases c3 : x1 < (J.2 x0 1)
  · rw [if_pos c3] at h
    refine ev_cmp_f (t := 16) zo_70_9 rfl (zcm_nge c3) rfl ?_
    refine ev_iconst (x := 1) zo_70_12 (by decide) rfl ?_
    refine ev_goto (t := 17) zo_70_13 rfl ?_
    obtain rfl := Option.some.inj h
    exact ev_retZ zo_70_17 zr_70 (Or.inr rfl)
  rw [if_neg c3] at h
  refine ev_cmp_t (t := 16) zo_70_9 rfl (zcm_ge c3) ?_
  refine ev_iconst (x := 0) zo_70_16 (by decide) rfl ?_
  obtain rfl := Option.some.inj h
  exact ev_retZ zo_70_17 zr_70 (Or.inl rfl)
/-! X4_hasRun -/
def F_X4_hasRun (x0 : Nat) (x1 : Int32) (x2 : Int32) (J : zzJ) : Option (Int32 × zzJ) := (if x2 < (0 : Int32) then some ((0 : Int32), J) else (if x1 < (0 : Int32) then some ((0 : Int32), J) else (if zKd x0 = 4 then (if ((J.2 x0 1) - x2) < x1 then some ((0 : Int32), J) else some ((1 : Int32), J)) else none)))
set_option maxRecDepth 100000 in
set_option maxHeartbeats 2000000 in
theorem G_X4_hasRun {d : Nat} (hd : 0 ≤ d) (x0 : Nat) (x1 : Int32) (x2 : Int32) (J : zzJ) (r : Int32 × zzJ) (h : F_X4_hasRun x0 x1 x2 J = some r) : zzEv d 71 0 [.ref x0, .int x1, .int x2] [] (zK J) (some (.int r.1), zK r.2) := by
  unfold F_X4_hasRun at h
  refine ev_iload_n zo_71_0 rfl rfl rfl ?_
  by_cases c1 : x2 < (0 : Int32)
  · rw [if_pos c1] at h
    refine ev_if_t (t := 22) zo_71_1 rfl (zcm_lt c1) ?_
    refine ev_iconst (x := 0) zo_71_22 (by decide) rfl ?_
    obtain rfl := Option.some.inj h
    exact ev_retZ zo_71_23 zr_71 (Or.inl rfl)
  rw [if_neg c1] at h
  refine ev_if_f (t := 22) zo_71_1 rfl (zcm_nlt c1) rfl ?_
  refine ev_iload_n zo_71_4 rfl rfl rfl ?_
  by_cases c2 : x1 < (0 : Int32)
  · rw [if_pos c2] at h
    refine ev_if_t (t := 22) zo_71_5 rfl (zcm_lt c2) ?_
    refine ev_iconst (x := 0) zo_71_22 (by decide) rfl ?_
    obtain rfl := Option.some.inj h
    exact ev_retZ zo_71_23 zr_71 (Or.inl rfl)
  rw [if_neg c2] at h
  refine ev_if_f (t := 22) zo_71_5 rfl (zcm_nlt c2) rfl ?_
  refine ev_iload_n zo_71_8 rfl rfl rfl ?_
  refine ev_aload_n zo_71_9 rfl rfl rfl rfl ?_
  obtain ⟨c3, h⟩ := zz_chk h
  refine ev_getI zo_71_10 zf_71_15 (by decide) (Or.inl rfl) c3 rfl ?_
  refine ev_iload_n zo_71_13 rfl rfl rfl ?_
  refine ev_isub zo_71_14 rfl ?_
  by_cases c4 : ((J.2 x0 1) - x2) < x1
  · rw [if_pos c4] at h
    refine ev_cmp_t (t := 22) zo_71_15 rfl (zcm_gt c4) ?_
    refine ev_iconst (x := 0) zo_71_22 (by decide) rfl ?_
    obtain rfl := Option.some.inj h
    exact ev_retZ zo_71_23 zr_71 (Or.inl rfl)
  rw [if_neg c4] at h
  refine ev_cmp_f (t := 22) zo_71_15 rfl (zcm_ngt c4) rfl ?_
  refine ev_iconst (x := 1) zo_71_18 (by decide) rfl ?_
  refine ev_goto (t := 23) zo_71_19 rfl ?_
  obtain rfl := Option.some.inj h
  exact ev_retZ zo_71_23 zr_71 (Or.inr rfl)
/-! X4_write -/
def F_X4_write (x0 : Nat) (x1 : Int32) (x2 : Int32) (J : zzJ) : Option (zzJ) := (if zKd x0 = 4 then (Option.bind (zMR x0 2) fun b2 => (if (J.2 x0 0) = (0 : Int32) then (Option.bind (F_X6_put b2 x1 (x2.toInt8.toInt32) J) fun q7 => some q7) else (if (J.2 x0 0) = (1 : Int32) then (Option.bind (F_X6_put b2 x1 (x2.toInt16.toInt32) J) fun q6 => some q6) else (Option.bind (F_X6_put b2 x1 x2 J) fun q5 => some q5)))) else none)
set_option maxRecDepth 100000 in
set_option maxHeartbeats 2000000 in
theorem G_X4_write {d : Nat} (hd : 1 ≤ d) (x0 : Nat) (x1 : Int32) (x2 : Int32) (J : zzJ) (r : zzJ) (h : F_X4_write x0 x1 x2 J = some r) : zzEv d 73 0 [.ref x0, .int x1, .int x2] [] (zK J) (none, zK r) := by
  unfold F_X4_write at h
  refine ev_aload_n zo_73_0 rfl rfl rfl rfl ?_
  obtain ⟨c1, h⟩ := zz_chk h
  obtain ⟨b2, eb2, h⟩ := zz_bd h
  refine ev_getR zo_73_1 zf_73_18 (by decide) rfl c1 eb2 rfl ?_
  refine ev_iload_n zo_73_4 rfl rfl rfl ?_
  refine ev_aload_n zo_73_5 rfl rfl rfl rfl ?_
  refine ev_getI zo_73_6 zf_73_9 (by decide) (Or.inl rfl) c1 rfl ?_
  by_cases c3 : (J.2 x0 0) = (0 : Int32)
  · rw [if_pos c3] at h
    refine ev_if_f (t := 17) zo_73_9 rfl (zcm_nne c3) rfl ?_
    refine ev_iload_n zo_73_12 rfl rfl rfl ?_
    refine ev_i2b zo_73_13 rfl ?_
    refine ev_goto (t := 31) zo_73_14 rfl ?_
    obtain ⟨q7, hq7, h⟩ := zz_bd h
    refine ev_cS (as := [.int (x2.toInt8.toInt32), .int x1, .ref b2]) (lsn := [.ref b2, .int x1, .int (x2.toInt8.toInt32)]) (by omega) zo_73_31 zl_73_30 (by decide) (by rw [zm_126]; rfl) (by unfold zzIn; rw [zm_126]; rfl) (by rw [zm_126]; exact Nat.le_of_ble_eq_true rfl) (Nat.le_of_ble_eq_true rfl) (G_X6_put (by omega) b2 x1 (x2.toInt8.toInt32) J q7 hq7) rfl ?_
    show zzEv _ _ _ _ [] _ _
    obtain rfl := Option.some.inj h
    exact ev_retV zo_73_34 zr_73
  rw [if_neg c3] at h
  refine ev_if_t (t := 17) zo_73_9 rfl (zcm_ne c3) ?_
  refine ev_aload_n zo_73_17 rfl rfl rfl rfl ?_
  refine ev_getI zo_73_18 zf_73_9 (by decide) (Or.inl rfl) c1 rfl ?_
  refine ev_iconst (x := 1) zo_73_21 (by decide) rfl ?_
  by_cases c4 : (J.2 x0 0) = (1 : Int32)
  · rw [if_pos c4] at h
    refine ev_cmp_f (t := 30) zo_73_22 rfl (zcm_nne c4) rfl ?_
    refine ev_iload_n zo_73_25 rfl rfl rfl ?_
    refine ev_i2s zo_73_26 rfl ?_
    refine ev_goto (t := 31) zo_73_27 rfl ?_
    obtain ⟨q6, hq6, h⟩ := zz_bd h
    refine ev_cS (as := [.int (x2.toInt16.toInt32), .int x1, .ref b2]) (lsn := [.ref b2, .int x1, .int (x2.toInt16.toInt32)]) (by omega) zo_73_31 zl_73_30 (by decide) (by rw [zm_126]; rfl) (by unfold zzIn; rw [zm_126]; rfl) (by rw [zm_126]; exact Nat.le_of_ble_eq_true rfl) (Nat.le_of_ble_eq_true rfl) (G_X6_put (by omega) b2 x1 (x2.toInt16.toInt32) J q6 hq6) rfl ?_
    show zzEv _ _ _ _ [] _ _
    obtain rfl := Option.some.inj h
    exact ev_retV zo_73_34 zr_73
  rw [if_neg c4] at h
  refine ev_cmp_t (t := 30) zo_73_22 rfl (zcm_ne c4) ?_
  refine ev_iload_n zo_73_30 rfl rfl rfl ?_
  obtain ⟨q5, hq5, h⟩ := zz_bd h
  refine ev_cS (as := [.int x2, .int x1, .ref b2]) (lsn := [.ref b2, .int x1, .int x2]) (by omega) zo_73_31 zl_73_30 (by decide) (by rw [zm_126]; rfl) (by unfold zzIn; rw [zm_126]; rfl) (by rw [zm_126]; exact Nat.le_of_ble_eq_true rfl) (Nat.le_of_ble_eq_true rfl) (G_X6_put (by omega) b2 x1 x2 J q5 hq5) rfl ?_
  show zzEv _ _ _ _ [] _ _
  obtain rfl := Option.some.inj h
  exact ev_retV zo_73_34 zr_73
/-! X6_setForAll -/
def F_X6_setForAll_44 (l1 : Int32) (l2 : Int32) (t0 : Int32) (J : zzJ) : Option (Int32 × zzJ) := (if l1 = (0 : Int32) then some (t0, (wI J 7 1 l2)) else some (t0, (wI J 7 2 l2)))
set_option maxRecDepth 100000 in
set_option maxHeartbeats 2000000 in
theorem G_X6_setForAll_44 {d : Nat} (hd : 0 ≤ d) : ∀ (l1 : Int32) (l2 : Int32) (t0 : Int32) (J : zzJ) (r : Int32 × zzJ), F_X6_setForAll_44 l1 l2 t0 J = some r → zzEv d 83 44 [.ref 0, .int l1, .int l2, zzU] [.int t0] (zK J) (some (.int r.1), zK r.2) := by
  intro l1 l2 t0 J r h
  unfold F_X6_setForAll_44 at h
  refine ev_istore_n zo_83_44 rfl (zz_set rfl (by decide) (Nat.le_of_ble_eq_true rfl)) rfl ?_
  show zzEv _ _ _ [.ref 0, .int l1, .int l2, .int t0] _ _ _
  refine ev_iload_n zo_83_45 rfl rfl rfl ?_
  by_cases c1 : l1 = (0 : Int32)
  · rw [if_pos c1] at h
    refine ev_if_f (t := 60) zo_83_46 rfl (zcm_nne c1) rfl ?_
    refine ev_aload_n zo_83_49 rfl rfl rfl rfl ?_
    refine ev_getR zo_83_50 zf_83_28 (by decide) rfl rfl rfl rfl ?_
    refine ev_iload_n zo_83_53 rfl rfl rfl ?_
    refine ev_putI zo_83_54 zf_83_101 (by decide) rfl rfl rfl rfl ?_
    refine ev_goto (t := 68) zo_83_57 rfl ?_
    refine ev_iload_n zo_83_68 rfl rfl rfl ?_
    obtain rfl := Option.some.inj h
    exact ev_retI zo_83_69 zr_83
  rw [if_neg c1] at h
  refine ev_if_t (t := 60) zo_83_46 rfl (zcm_ne c1) ?_
  refine ev_aload_n zo_83_60 rfl rfl rfl rfl ?_
  refine ev_getR zo_83_61 zf_83_28 (by decide) rfl rfl rfl rfl ?_
  refine ev_iload_n zo_83_64 rfl rfl rfl ?_
  refine ev_putI zo_83_65 zf_83_105 (by decide) rfl rfl rfl rfl ?_
  refine ev_iload_n zo_83_68 rfl rfl rfl ?_
  obtain rfl := Option.some.inj h
  exact ev_retI zo_83_69 zr_83
def F_X6_setForAll_17 (l1 : Int32) (l2 : Int32) (t0 : Int32) (t1 : Int32) (J : zzJ) : Option (Int32 × zzJ) := (if t0 < t1 then some ((-2 : Int32), J) else (if l1 = (0 : Int32) then F_X6_setForAll_44 l1 l2 (J.2 7 1) J else F_X6_setForAll_44 l1 l2 (J.2 7 2) J))
set_option maxRecDepth 100000 in
set_option maxHeartbeats 2000000 in
theorem G_X6_setForAll_17 {d : Nat} (hd : 0 ≤ d) : ∀ (l1 : Int32) (l2 : Int32) (t0 : Int32) (t1 : Int32) (J : zzJ) (r : Int32 × zzJ), F_X6_setForAll_17 l1 l2 t0 t1 J = some r → zzEv d 83 17 [.ref 0, .int l1, .int l2, zzU] [.int t0, .int t1] (zK J) (some (.int r.1), zK r.2) := by
  intro l1 l2 t0 t1 J r h
  unfold F_X6_setForAll_17 at h
  by_cases c2 : t0 < t1
  · rw [if_pos c2] at h
    refine ev_cmp_f (t := 23) zo_83_17 rfl (zcm_nle c2) rfl ?_
    refine ev_bipush (x := (-2)) zo_83_20 (by decide) rfl ?_
    obtain rfl := Option.some.inj h
    exact ev_retI zo_83_22 zr_83
  rw [if_neg c2] at h
  refine ev_cmp_t (t := 23) zo_83_17 rfl (zcm_le c2) ?_
  refine ev_iload_n zo_83_23 rfl rfl rfl ?_
  by_cases c3 : l1 = (0 : Int32)
  · rw [if_pos c3] at h
    refine ev_if_f (t := 37) zo_83_24 rfl (zcm_nne c3) rfl ?_
    refine ev_aload_n zo_83_27 rfl rfl rfl rfl ?_
    refine ev_getR zo_83_28 zf_83_28 (by decide) rfl rfl rfl rfl ?_
    refine ev_getI zo_83_31 zf_83_101 (by decide) (Or.inl rfl) rfl rfl ?_
    refine ev_goto (t := 44) zo_83_34 rfl ?_
    exact G_X6_setForAll_44 hd l1 l2 (J.2 7 1) J r h
  rw [if_neg c3] at h
  refine ev_if_t (t := 37) zo_83_24 rfl (zcm_ne c3) ?_
  refine ev_aload_n zo_83_37 rfl rfl rfl rfl ?_
  refine ev_getR zo_83_38 zf_83_28 (by decide) rfl rfl rfl rfl ?_
  refine ev_getI zo_83_41 zf_83_105 (by decide) (Or.inl rfl) rfl rfl ?_
  exact G_X6_setForAll_44 hd l1 l2 (J.2 7 2) J r h
def F_X6_setForAll (x1 : Int32) (x2 : Int32) (J : zzJ) : Option (Int32 × zzJ) := (if x2 < (0 : Int32) then some ((-2 : Int32), J) else (if x1 = (0 : Int32) then F_X6_setForAll_17 x1 x2 (99 : Int32) x2 J else F_X6_setForAll_17 x1 x2 (999 : Int32) x2 J))
set_option maxRecDepth 100000 in
set_option maxHeartbeats 2000000 in
theorem G_X6_setForAll {d : Nat} (hd : 0 ≤ d) (x1 : Int32) (x2 : Int32) (J : zzJ) (r : Int32 × zzJ) (h : F_X6_setForAll x1 x2 J = some r) : zzEv d 83 0 [.ref 0, .int x1, .int x2, zzU] [] (zK J) (some (.int r.1), zK r.2) := by
  unfold F_X6_setForAll at h
  refine ev_iload_n zo_83_0 rfl rfl rfl ?_
  by_cases c4 : x2 < (0 : Int32)
  · rw [if_pos c4] at h
    refine ev_if_t (t := 20) zo_83_1 rfl (zcm_lt c4) ?_
    refine ev_bipush (x := (-2)) zo_83_20 (by decide) rfl ?_
    obtain rfl := Option.some.inj h
    exact ev_retI zo_83_22 zr_83
  rw [if_neg c4] at h
  refine ev_if_f (t := 20) zo_83_1 rfl (zcm_nlt c4) rfl ?_
  refine ev_iload_n zo_83_4 rfl rfl rfl ?_
  refine ev_iload_n zo_83_5 rfl rfl rfl ?_
  by_cases c5 : x1 = (0 : Int32)
  · rw [if_pos c5] at h
    refine ev_if_f (t := 14) zo_83_6 rfl (zcm_nne c5) rfl ?_
    refine ev_bipush (x := 99) zo_83_9 (by decide) rfl ?_
    refine ev_goto (t := 17) zo_83_11 rfl ?_
    exact G_X6_setForAll_17 hd x1 x2 (99 : Int32) x2 J r h
  rw [if_neg c5] at h
  refine ev_if_t (t := 14) zo_83_6 rfl (zcm_ne c5) ?_
  refine ev_sipush (x := 999) zo_83_14 (by decide) rfl ?_
  exact G_X6_setForAll_17 hd x1 x2 (999 : Int32) x2 J r h
/-! X6_swapItem -/
def F_X6_swapItem (x0 : Nat) (x1 : Int32) (x2 : Int32) (J : zzJ) : Option (Int32 × zzJ) := (Option.bind (F_X6_itemAt x0 x1 J) fun q1 => (Option.bind (F_X6_put x0 x1 x2 q1.2) fun q2 => some (q1.1, q2)))
set_option maxRecDepth 100000 in
set_option maxHeartbeats 2000000 in
theorem G_X6_swapItem {d : Nat} (hd : 1 ≤ d) (x0 : Nat) (x1 : Int32) (x2 : Int32) (J : zzJ) (r : Int32 × zzJ) (h : F_X6_swapItem x0 x1 x2 J = some r) : zzEv d 127 0 [.ref x0, .int x1, .int x2, zzU] [] (zK J) (some (.int r.1), zK r.2) := by
  unfold F_X6_swapItem at h
  refine ev_aload_n zo_127_0 rfl rfl rfl rfl ?_
  refine ev_iload_n zo_127_1 rfl rfl rfl ?_
  obtain ⟨q1, hq1, h⟩ := zz_bd h
  refine ev_cS (as := [.int x1, .ref x0]) (lsn := [.ref x0, .int x1]) (by omega) zo_127_2 zl_127_179 (by decide) (by rw [zm_125]; rfl) (by unfold zzIn; rw [zm_125]; rfl) (by rw [zm_125]; exact Nat.le_of_ble_eq_true rfl) (Nat.le_of_ble_eq_true rfl) (G_X6_itemAt (by omega) x0 x1 J q1 hq1) rfl ?_
  show zzEv _ _ _ _ [.int q1.1] _ _
  refine ev_istore_n zo_127_5 rfl (zz_set rfl (by decide) (Nat.le_of_ble_eq_true rfl)) rfl ?_
  show zzEv _ _ _ [.ref x0, .int x1, .int x2, .int q1.1] _ _ _
  refine ev_aload_n zo_127_6 rfl rfl rfl rfl ?_
  refine ev_iload_n zo_127_7 rfl rfl rfl ?_
  refine ev_iload_n zo_127_8 rfl rfl rfl ?_
  obtain ⟨q2, hq2, h⟩ := zz_bd h
  refine ev_cS (as := [.int x2, .int x1, .ref x0]) (lsn := [.ref x0, .int x1, .int x2]) (by omega) zo_127_9 zl_127_268 (by decide) (by rw [zm_126]; rfl) (by unfold zzIn; rw [zm_126]; rfl) (by rw [zm_126]; exact Nat.le_of_ble_eq_true rfl) (Nat.le_of_ble_eq_true rfl) (G_X6_put (by omega) x0 x1 x2 q1.2 q2 hq2) rfl ?_
  show zzEv _ _ _ _ [] _ _
  refine ev_iload_n zo_127_12 rfl rfl rfl ?_
  obtain rfl := Option.some.inj h
  exact ev_retI zo_127_13 zr_127
/-! X6_set -/
def F_X6_set_84 (l2 : Int32) (l3 : Int32) (J : zzJ) : Option (Int32 × zzJ) := (Option.bind (F_X6_swapItem 10 l2 l3 J) fun q1 => some (q1.1, q1.2))
set_option maxRecDepth 100000 in
set_option maxHeartbeats 2000000 in
theorem G_X6_set_84 {d : Nat} (hd : 2 ≤ d) : ∀ (l2 : Int32) (l3 : Int32) (J : zzJ) (r : Int32 × zzJ), F_X6_set_84 l2 l3 J = some r → ∀ (lv1 : Value) (hlv1 : lv1.category = 1), zzEv d 82 84 [.ref 0, lv1, .int l2, .int l3] [] (zK J) (some (.int r.1), zK r.2) := by
  intro l2 l3 J r h lv1 hlv1
  unfold F_X6_set_84 at h
  refine ev_aload_n zo_82_84 rfl rfl rfl rfl ?_
  refine ev_getR zo_82_85 zf_82_28 (by decide) rfl rfl rfl rfl ?_
  refine ev_getR zo_82_88 zf_82_98 (by decide) rfl rfl rfl rfl ?_
  refine ev_iload_n zo_82_91 rfl rfl rfl ?_
  refine ev_iload_n zo_82_92 rfl rfl rfl ?_
  obtain ⟨q1, hq1, h⟩ := zz_bd h
  refine ev_cS (as := [.int l3, .int l2, .ref 10]) (lsn := [.ref 10, .int l2, .int l3, zzU]) (by omega) zo_82_93 zl_82_94 (by decide) (by rw [zm_127]; rfl) (by unfold zzIn; rw [zm_127]; rfl) (by rw [zm_127]; exact Nat.le_of_ble_eq_true rfl) (Nat.le_of_ble_eq_true rfl) (G_X6_swapItem (by omega) 10 l2 l3 J q1 hq1) rfl ?_
  show zzEv _ _ _ _ [.int q1.1] _ _
  obtain rfl := Option.some.inj h
  exact ev_retI zo_82_96 zr_82
def F_X6_set_58 (l1 : Int32) (l2 : Int32) (l3 : Int32) (J : zzJ) : Option (Int32 × zzJ) := (if l1 = (3 : Int32) then (if l3 = l2 then some ((-2 : Int32), J) else (if l3 = (-1 : Int32) then F_X6_set_84 l2 l3 J else (Option.bind (F_X0_has 7 l3 J) fun q5 => (if q5.1 = (0 : Int32) then some ((-2 : Int32), q5.2) else F_X6_set_84 l2 l3 q5.2)))) else some ((-2 : Int32), J))
set_option maxRecDepth 100000 in
set_option maxHeartbeats 2000000 in
theorem G_X6_set_58 {d : Nat} (hd : 2 ≤ d) : ∀ (l1 : Int32) (l2 : Int32) (l3 : Int32) (J : zzJ) (r : Int32 × zzJ), F_X6_set_58 l1 l2 l3 J = some r → zzEv d 82 58 [.ref 0, .int l1, .int l2, .int l3] [] (zK J) (some (.int r.1), zK r.2) := by
  intro l1 l2 l3 J r h
  unfold F_X6_set_58 at h
  refine ev_iload_n zo_82_58 rfl rfl rfl ?_
  refine ev_iconst (x := 3) zo_82_59 (by decide) rfl ?_
  by_cases c2 : l1 = (3 : Int32)
  · rw [if_pos c2] at h
    refine ev_cmp_f (t := 97) zo_82_60 rfl (zcm_nne c2) rfl ?_
    refine ev_iload_n zo_82_63 rfl rfl rfl ?_
    refine ev_iload_n zo_82_64 rfl rfl rfl ?_
    by_cases c3 : l3 = l2
    · rw [if_pos c3] at h
      refine ev_cmp_t (t := 97) zo_82_65 rfl (zcm_eq c3) ?_
      refine ev_bipush (x := (-2)) zo_82_97 (by decide) rfl ?_
      obtain rfl := Option.some.inj h
      exact ev_retI zo_82_99 zr_82
    rw [if_neg c3] at h
    refine ev_cmp_f (t := 97) zo_82_65 rfl (zcm_neq c3) rfl ?_
    refine ev_iload_n zo_82_68 rfl rfl rfl ?_
    refine ev_iconst (x := (-1)) zo_82_69 (by decide) rfl ?_
    by_cases c4 : l3 = (-1 : Int32)
    · rw [if_pos c4] at h
      refine ev_cmp_t (t := 84) zo_82_70 rfl (zcm_eq c4) ?_
      exact G_X6_set_84 hd l2 l3 J r h (.int l1) rfl
    rw [if_neg c4] at h
    refine ev_cmp_f (t := 84) zo_82_70 rfl (zcm_neq c4) rfl ?_
    refine ev_aload_n zo_82_73 rfl rfl rfl rfl ?_
    refine ev_getR zo_82_74 zf_82_28 (by decide) rfl rfl rfl rfl ?_
    refine ev_iload_n zo_82_77 rfl rfl rfl ?_
    obtain ⟨q5, hq5, h⟩ := zz_bd h
    refine ev_cV (as := [.int l3]) (lsn := [.ref 7, .int l3]) (by omega) zo_82_78 zl_82_86 (by rw [zm_2]; rfl) (by rw [zm_2]; exact rfl) (by rw [zm_2]; decide) (by unfold zzIn; rw [zm_2]; rfl) (by rw [zm_2]; exact Nat.le_of_ble_eq_true rfl) (Nat.le_of_ble_eq_true rfl) (G_X0_has (by omega) 7 l3 J q5 hq5) rfl ?_
    show zzEv _ _ _ _ [.int q5.1] _ _
    by_cases c6 : q5.1 = (0 : Int32)
    · rw [if_pos c6] at h
      refine ev_if_t (t := 97) zo_82_81 rfl (zcm_eq c6) ?_
      refine ev_bipush (x := (-2)) zo_82_97 (by decide) rfl ?_
      obtain rfl := Option.some.inj h
      exact ev_retI zo_82_99 zr_82
    rw [if_neg c6] at h
    refine ev_if_f (t := 97) zo_82_81 rfl (zcm_neq c6) rfl ?_
    exact G_X6_set_84 hd l2 l3 q5.2 r h (.int l1) rfl
  rw [if_neg c2] at h
  refine ev_cmp_t (t := 97) zo_82_60 rfl (zcm_ne c2) ?_
  refine ev_bipush (x := (-2)) zo_82_97 (by decide) rfl ?_
  obtain rfl := Option.some.inj h
  exact ev_retI zo_82_99 zr_82
def F_X6_set (x1 : Int32) (x2 : Int32) (x3 : Int32) (J : zzJ) : Option (Int32 × zzJ) := (if x1 = (0 : Int32) then (Option.bind (F_X6_setForAll x1 x3 J) fun q8 => some (q8.1, q8.2)) else (if x1 = (1 : Int32) then (Option.bind (F_X6_setForAll x1 x3 J) fun q16 => some (q16.1, q16.2)) else (Option.bind (F_X0_has 7 x2 J) fun q10 => (if q10.1 = (0 : Int32) then some ((-2 : Int32), q10.2) else (if x1 = (2 : Int32) then (if x3 < (0 : Int32) then F_X6_set_58 x1 x2 x3 q10.2 else (if (9 : Int32) < x3 then F_X6_set_58 x1 x2 x3 q10.2 else (Option.bind (F_X6_swapItem 9 x2 x3 q10.2) fun q15 => some (q15.1, q15.2)))) else F_X6_set_58 x1 x2 x3 q10.2)))))
set_option maxRecDepth 100000 in
set_option maxHeartbeats 2000000 in
theorem G_X6_set {d : Nat} (hd : 2 ≤ d) (x1 : Int32) (x2 : Int32) (x3 : Int32) (J : zzJ) (r : Int32 × zzJ) (h : F_X6_set x1 x2 x3 J = some r) : zzEv d 82 0 [.ref 0, .int x1, .int x2, .int x3] [] (zK J) (some (.int r.1), zK r.2) := by
  unfold F_X6_set at h
  refine ev_iload_n zo_82_0 rfl rfl rfl ?_
  by_cases c7 : x1 = (0 : Int32)
  · rw [if_pos c7] at h
    refine ev_if_t (t := 9) zo_82_1 rfl (zcm_eq c7) ?_
    refine ev_aload_n zo_82_9 rfl rfl rfl rfl ?_
    refine ev_iload_n zo_82_10 rfl rfl rfl ?_
    refine ev_iload_n zo_82_11 rfl rfl rfl ?_
    obtain ⟨q8, hq8, h⟩ := zz_bd h
    refine ev_cV (as := [.int x3, .int x1]) (lsn := [.ref 0, .int x1, .int x3, zzU]) (by omega) zo_82_12 zl_82_82 (by rw [zm_83]; rfl) (by rw [zm_83]; exact rfl) (by rw [zm_83]; decide) (by unfold zzIn; rw [zm_83]; rfl) (by rw [zm_83]; exact Nat.le_of_ble_eq_true rfl) (Nat.le_of_ble_eq_true rfl) (G_X6_setForAll (by omega) x1 x3 J q8 hq8) rfl ?_
    show zzEv _ _ _ _ [.int q8.1] _ _
    obtain rfl := Option.some.inj h
    exact ev_retI zo_82_15 zr_82
  rw [if_neg c7] at h
  refine ev_if_f (t := 9) zo_82_1 rfl (zcm_neq c7) rfl ?_
  refine ev_iload_n zo_82_4 rfl rfl rfl ?_
  refine ev_iconst (x := 1) zo_82_5 (by decide) rfl ?_
  by_cases c9 : x1 = (1 : Int32)
  · rw [if_pos c9] at h
    refine ev_cmp_f (t := 16) zo_82_6 rfl (zcm_nne c9) rfl ?_
    refine ev_aload_n zo_82_9 rfl rfl rfl rfl ?_
    refine ev_iload_n zo_82_10 rfl rfl rfl ?_
    refine ev_iload_n zo_82_11 rfl rfl rfl ?_
    obtain ⟨q16, hq16, h⟩ := zz_bd h
    refine ev_cV (as := [.int x3, .int x1]) (lsn := [.ref 0, .int x1, .int x3, zzU]) (by omega) zo_82_12 zl_82_82 (by rw [zm_83]; rfl) (by rw [zm_83]; exact rfl) (by rw [zm_83]; decide) (by unfold zzIn; rw [zm_83]; rfl) (by rw [zm_83]; exact Nat.le_of_ble_eq_true rfl) (Nat.le_of_ble_eq_true rfl) (G_X6_setForAll (by omega) x1 x3 J q16 hq16) rfl ?_
    show zzEv _ _ _ _ [.int q16.1] _ _
    obtain rfl := Option.some.inj h
    exact ev_retI zo_82_15 zr_82
  rw [if_neg c9] at h
  refine ev_cmp_t (t := 16) zo_82_6 rfl (zcm_ne c9) ?_
  refine ev_aload_n zo_82_16 rfl rfl rfl rfl ?_
  refine ev_getR zo_82_17 zf_82_28 (by decide) rfl rfl rfl rfl ?_
  refine ev_iload_n zo_82_20 rfl rfl rfl ?_
  obtain ⟨q10, hq10, h⟩ := zz_bd h
  refine ev_cV (as := [.int x2]) (lsn := [.ref 7, .int x2]) (by omega) zo_82_21 zl_82_86 (by rw [zm_2]; rfl) (by rw [zm_2]; exact rfl) (by rw [zm_2]; decide) (by unfold zzIn; rw [zm_2]; rfl) (by rw [zm_2]; exact Nat.le_of_ble_eq_true rfl) (Nat.le_of_ble_eq_true rfl) (G_X0_has (by omega) 7 x2 J q10 hq10) rfl ?_
  show zzEv _ _ _ _ [.int q10.1] _ _
  by_cases c11 : q10.1 = (0 : Int32)
  · rw [if_pos c11] at h
    refine ev_if_f (t := 30) zo_82_24 rfl (zcm_nne c11) rfl ?_
    refine ev_bipush (x := (-2)) zo_82_27 (by decide) rfl ?_
    obtain rfl := Option.some.inj h
    exact ev_retI zo_82_29 zr_82
  rw [if_neg c11] at h
  refine ev_if_t (t := 30) zo_82_24 rfl (zcm_ne c11) ?_
  refine ev_iload_n zo_82_30 rfl rfl rfl ?_
  refine ev_iconst (x := 2) zo_82_31 (by decide) rfl ?_
  by_cases c12 : x1 = (2 : Int32)
  · rw [if_pos c12] at h
    refine ev_cmp_f (t := 58) zo_82_32 rfl (zcm_nne c12) rfl ?_
    refine ev_iload_n zo_82_35 rfl rfl rfl ?_
    by_cases c13 : x3 < (0 : Int32)
    · rw [if_pos c13] at h
      refine ev_if_t (t := 58) zo_82_36 rfl (zcm_lt c13) ?_
      exact G_X6_set_58 hd x1 x2 x3 q10.2 r h
    rw [if_neg c13] at h
    refine ev_if_f (t := 58) zo_82_36 rfl (zcm_nlt c13) rfl ?_
    refine ev_iload_n zo_82_39 rfl rfl rfl ?_
    refine ev_bipush (x := 9) zo_82_40 (by decide) rfl ?_
    by_cases c14 : (9 : Int32) < x3
    · rw [if_pos c14] at h
      refine ev_cmp_t (t := 58) zo_82_42 rfl (zcm_gt c14) ?_
      exact G_X6_set_58 hd x1 x2 x3 q10.2 r h
    rw [if_neg c14] at h
    refine ev_cmp_f (t := 58) zo_82_42 rfl (zcm_ngt c14) rfl ?_
    refine ev_aload_n zo_82_45 rfl rfl rfl rfl ?_
    refine ev_getR zo_82_46 zf_82_28 (by decide) rfl rfl rfl rfl ?_
    refine ev_getR zo_82_49 zf_82_90 (by decide) rfl rfl rfl rfl ?_
    refine ev_iload_n zo_82_52 rfl rfl rfl ?_
    refine ev_iload_n zo_82_53 rfl rfl rfl ?_
    obtain ⟨q15, hq15, h⟩ := zz_bd h
    refine ev_cS (as := [.int x3, .int x2, .ref 9]) (lsn := [.ref 9, .int x2, .int x3, zzU]) (by omega) zo_82_54 zl_82_94 (by decide) (by rw [zm_127]; rfl) (by unfold zzIn; rw [zm_127]; rfl) (by rw [zm_127]; exact Nat.le_of_ble_eq_true rfl) (Nat.le_of_ble_eq_true rfl) (G_X6_swapItem (by omega) 9 x2 x3 q10.2 q15 hq15) rfl ?_
    show zzEv _ _ _ _ [.int q15.1] _ _
    obtain rfl := Option.some.inj h
    exact ev_retI zo_82_57 zr_82
  rw [if_neg c12] at h
  refine ev_cmp_t (t := 58) zo_82_32 rfl (zcm_ne c12) ?_
  exact G_X6_set_58 hd x1 x2 x3 q10.2 r h
/-! X6_passenger -/
def F_X6_passenger (x1 : Int32) (x2 : Int32) (J : zzJ) : Option (Int32 × zzJ) := (if x1 < (0 : Int32) then some ((-2 : Int32), J) else (if x1 < (6 : Int32) then (if x2 < (0 : Int32) then some ((-2 : Int32), J) else (if (9 : Int32) < x2 then some ((-2 : Int32), J) else (if (J.2 7 4) < (8 : Int32) then (Option.bind (F_X0_join 7 x1 x2 J) fun q6 => some (q6.1, q6.2)) else some ((-4 : Int32), J)))) else some ((-2 : Int32), J)))
set_option maxRecDepth 100000 in
set_option maxHeartbeats 2000000 in
theorem G_X6_passenger {d : Nat} (hd : 2 ≤ d) (x1 : Int32) (x2 : Int32) (J : zzJ) (r : Int32 × zzJ) (h : F_X6_passenger x1 x2 J = some r) : zzEv d 84 0 [.ref 0, .int x1, .int x2] [] (zK J) (some (.int r.1), zK r.2) := by
  unfold F_X6_passenger at h
  refine ev_iload_n zo_84_0 rfl rfl rfl ?_
  by_cases c1 : x1 < (0 : Int32)
  · rw [if_pos c1] at h
    refine ev_if_t (t := 20) zo_84_1 rfl (zcm_lt c1) ?_
    refine ev_bipush (x := (-2)) zo_84_20 (by decide) rfl ?_
    obtain rfl := Option.some.inj h
    exact ev_retI zo_84_22 zr_84
  rw [if_neg c1] at h
  refine ev_if_f (t := 20) zo_84_1 rfl (zcm_nlt c1) rfl ?_
  refine ev_iload_n zo_84_4 rfl rfl rfl ?_
  refine ev_bipush (x := 6) zo_84_5 (by decide) rfl ?_
  by_cases c2 : x1 < (6 : Int32)
  · rw [if_pos c2] at h
    refine ev_cmp_f (t := 20) zo_84_7 rfl (zcm_nge c2) rfl ?_
    refine ev_iload_n zo_84_10 rfl rfl rfl ?_
    by_cases c3 : x2 < (0 : Int32)
    · rw [if_pos c3] at h
      refine ev_if_t (t := 20) zo_84_11 rfl (zcm_lt c3) ?_
      refine ev_bipush (x := (-2)) zo_84_20 (by decide) rfl ?_
      obtain rfl := Option.some.inj h
      exact ev_retI zo_84_22 zr_84
    rw [if_neg c3] at h
    refine ev_if_f (t := 20) zo_84_11 rfl (zcm_nlt c3) rfl ?_
    refine ev_iload_n zo_84_14 rfl rfl rfl ?_
    refine ev_bipush (x := 9) zo_84_15 (by decide) rfl ?_
    by_cases c4 : (9 : Int32) < x2
    · rw [if_pos c4] at h
      refine ev_cmp_f (t := 23) zo_84_17 rfl (zcm_nle c4) rfl ?_
      refine ev_bipush (x := (-2)) zo_84_20 (by decide) rfl ?_
      obtain rfl := Option.some.inj h
      exact ev_retI zo_84_22 zr_84
    rw [if_neg c4] at h
    refine ev_cmp_t (t := 23) zo_84_17 rfl (zcm_le c4) ?_
    refine ev_aload_n zo_84_23 rfl rfl rfl rfl ?_
    refine ev_getR zo_84_24 zf_84_28 (by decide) rfl rfl rfl rfl ?_
    refine ev_getI zo_84_27 zf_84_108 (by decide) (Or.inl rfl) rfl rfl ?_
    refine ev_bipush (x := 8) zo_84_30 (by decide) rfl ?_
    by_cases c5 : (J.2 7 4) < (8 : Int32)
    · rw [if_pos c5] at h
      refine ev_cmp_t (t := 40) zo_84_32 rfl (zcm_lt c5) ?_
      refine ev_aload_n zo_84_40 rfl rfl rfl rfl ?_
      refine ev_getR zo_84_41 zf_84_28 (by decide) rfl rfl rfl rfl ?_
      refine ev_iload_n zo_84_44 rfl rfl rfl ?_
      refine ev_iload_n zo_84_45 rfl rfl rfl ?_
      obtain ⟨q6, hq6, h⟩ := zz_bd h
      refine ev_cV (as := [.int x2, .int x1]) (lsn := [.ref 7, .int x1, .int x2]) (by omega) zo_84_46 zl_84_111 (by rw [zm_3]; rfl) (by rw [zm_3]; exact rfl) (by rw [zm_3]; decide) (by unfold zzIn; rw [zm_3]; rfl) (by rw [zm_3]; exact Nat.le_of_ble_eq_true rfl) (Nat.le_of_ble_eq_true rfl) (G_X0_join (by omega) 7 x1 x2 J q6 hq6) rfl ?_
      show zzEv _ _ _ _ [.int q6.1] _ _
      obtain rfl := Option.some.inj h
      exact ev_retI zo_84_49 zr_84
    rw [if_neg c5] at h
    refine ev_cmp_f (t := 40) zo_84_32 rfl (zcm_nlt c5) rfl ?_
    refine ev_bipush (x := (-4)) zo_84_35 (by decide) rfl ?_
    refine ev_goto (t := 49) zo_84_37 rfl ?_
    obtain rfl := Option.some.inj h
    exact ev_retI zo_84_49 zr_84
  rw [if_neg c2] at h
  refine ev_cmp_t (t := 20) zo_84_7 rfl (zcm_ge c2) ?_
  refine ev_bipush (x := (-2)) zo_84_20 (by decide) rfl ?_
  obtain rfl := Option.some.inj h
  exact ev_retI zo_84_22 zr_84
/-! X6_sit -/
def F_X6_sit_47 (l1 : Int32) (l2 : Int32) (J : zzJ) : Option (Int32 × zzJ) := (Option.bind (F_X0_seatOf 7 l1 J) fun q1 => (Option.bind (F_X0_move 7 l1 l2 q1.2) fun q2 => some (q1.1, q2)))
set_option maxRecDepth 100000 in
set_option maxHeartbeats 2000000 in
theorem G_X6_sit_47 {d : Nat} (hd : 2 ≤ d) : ∀ (l1 : Int32) (l2 : Int32) (J : zzJ) (r : Int32 × zzJ), F_X6_sit_47 l1 l2 J = some r → ∀ (lv3 : Value) (hlv3 : lv3.category = 1), zzEv d 85 47 [.ref 0, .int l1, .int l2, lv3, zzU] [] (zK J) (some (.int r.1), zK r.2) := by
  intro l1 l2 J r h lv3 hlv3
  unfold F_X6_sit_47 at h
  refine ev_aload_n zo_85_47 rfl rfl rfl rfl ?_
  refine ev_getR zo_85_48 zf_85_28 (by decide) rfl rfl rfl rfl ?_
  refine ev_iload_n zo_85_51 rfl rfl rfl ?_
  obtain ⟨q1, hq1, h⟩ := zz_bd h
  refine ev_cV (as := [.int l1]) (lsn := [.ref 7, .int l1]) (by omega) zo_85_52 zl_85_117 (by rw [zm_7]; rfl) (by rw [zm_7]; exact rfl) (by rw [zm_7]; decide) (by unfold zzIn; rw [zm_7]; rfl) (by rw [zm_7]; exact Nat.le_of_ble_eq_true rfl) (Nat.le_of_ble_eq_true rfl) (G_X0_seatOf (by omega) 7 l1 J q1 hq1) rfl ?_
  show zzEv _ _ _ _ [.int q1.1] _ _
  refine ev_istore zo_85_55 (zz_set (zz_lg (j := 3) rfl hlv3) (by decide) (Nat.le_of_ble_eq_true rfl)) rfl ?_
  show zzEv _ _ _ [.ref 0, .int l1, .int l2, lv3, .int q1.1] _ _ _
  refine ev_aload_n zo_85_57 rfl rfl rfl rfl ?_
  refine ev_getR zo_85_58 zf_85_28 (by decide) rfl rfl rfl rfl ?_
  refine ev_iload_n zo_85_61 rfl rfl rfl ?_
  refine ev_iload_n zo_85_62 rfl rfl rfl ?_
  obtain ⟨q2, hq2, h⟩ := zz_bd h
  refine ev_cV (as := [.int l2, .int l1]) (lsn := [.ref 7, .int l1, .int l2]) (by omega) zo_85_63 zl_85_120 (by rw [zm_11]; rfl) (by rw [zm_11]; exact rfl) (by rw [zm_11]; decide) (by unfold zzIn; rw [zm_11]; rfl) (by rw [zm_11]; exact Nat.le_of_ble_eq_true rfl) (Nat.le_of_ble_eq_true rfl) (G_X0_move (by omega) 7 l1 l2 q1.2 q2 hq2) rfl ?_
  show zzEv _ _ _ _ [] _ _
  refine ev_iload zo_85_66 rfl rfl ?_
  obtain rfl := Option.some.inj h
  exact ev_retI zo_85_68 zr_85
def F_X6_sit (x1 : Int32) (x2 : Int32) (J : zzJ) : Option (Int32 × zzJ) := (Option.bind (F_X0_has 7 x1 J) fun q3 => (if q3.1 = (0 : Int32) then some ((-2 : Int32), q3.2) else (if x2 < (-1 : Int32) then some ((-2 : Int32), q3.2) else (if x2 < (24 : Int32) then (Option.bind (F_X0_sitterAt 7 x2 q3.2) fun q7 => (if q7.1 = (-1 : Int32) then F_X6_sit_47 x1 x2 q7.2 else (if q7.1 = x1 then F_X6_sit_47 x1 x2 q7.2 else some ((-3 : Int32), q7.2)))) else some ((-2 : Int32), q3.2)))))
set_option maxRecDepth 100000 in
set_option maxHeartbeats 2000000 in
theorem G_X6_sit {d : Nat} (hd : 2 ≤ d) (x1 : Int32) (x2 : Int32) (J : zzJ) (r : Int32 × zzJ) (h : F_X6_sit x1 x2 J = some r) : zzEv d 85 0 [.ref 0, .int x1, .int x2, zzU, zzU] [] (zK J) (some (.int r.1), zK r.2) := by
  unfold F_X6_sit at h
  refine ev_aload_n zo_85_0 rfl rfl rfl rfl ?_
  refine ev_getR zo_85_1 zf_85_28 (by decide) rfl rfl rfl rfl ?_
  refine ev_iload_n zo_85_4 rfl rfl rfl ?_
  obtain ⟨q3, hq3, h⟩ := zz_bd h
  refine ev_cV (as := [.int x1]) (lsn := [.ref 7, .int x1]) (by omega) zo_85_5 zl_85_86 (by rw [zm_2]; rfl) (by rw [zm_2]; exact rfl) (by rw [zm_2]; decide) (by unfold zzIn; rw [zm_2]; rfl) (by rw [zm_2]; exact Nat.le_of_ble_eq_true rfl) (Nat.le_of_ble_eq_true rfl) (G_X0_has (by omega) 7 x1 J q3 hq3) rfl ?_
  show zzEv _ _ _ _ [.int q3.1] _ _
  by_cases c4 : q3.1 = (0 : Int32)
  · rw [if_pos c4] at h
    refine ev_if_t (t := 22) zo_85_8 rfl (zcm_eq c4) ?_
    refine ev_bipush (x := (-2)) zo_85_22 (by decide) rfl ?_
    obtain rfl := Option.some.inj h
    exact ev_retI zo_85_24 zr_85
  rw [if_neg c4] at h
  refine ev_if_f (t := 22) zo_85_8 rfl (zcm_neq c4) rfl ?_
  refine ev_iload_n zo_85_11 rfl rfl rfl ?_
  refine ev_iconst (x := (-1)) zo_85_12 (by decide) rfl ?_
  by_cases c5 : x2 < (-1 : Int32)
  · rw [if_pos c5] at h
    refine ev_cmp_t (t := 22) zo_85_13 rfl (zcm_lt c5) ?_
    refine ev_bipush (x := (-2)) zo_85_22 (by decide) rfl ?_
    obtain rfl := Option.some.inj h
    exact ev_retI zo_85_24 zr_85
  rw [if_neg c5] at h
  refine ev_cmp_f (t := 22) zo_85_13 rfl (zcm_nlt c5) rfl ?_
  refine ev_iload_n zo_85_16 rfl rfl rfl ?_
  refine ev_bipush (x := 24) zo_85_17 (by decide) rfl ?_
  by_cases c6 : x2 < (24 : Int32)
  · rw [if_pos c6] at h
    refine ev_cmp_t (t := 25) zo_85_19 rfl (zcm_lt c6) ?_
    refine ev_aload_n zo_85_25 rfl rfl rfl rfl ?_
    refine ev_getR zo_85_26 zf_85_28 (by decide) rfl rfl rfl rfl ?_
    refine ev_iload_n zo_85_29 rfl rfl rfl ?_
    obtain ⟨q7, hq7, h⟩ := zz_bd h
    refine ev_cV (as := [.int x2]) (lsn := [.ref 7, .int x2]) (by omega) zo_85_30 zl_85_114 (by rw [zm_9]; rfl) (by rw [zm_9]; exact rfl) (by rw [zm_9]; decide) (by unfold zzIn; rw [zm_9]; rfl) (by rw [zm_9]; exact Nat.le_of_ble_eq_true rfl) (Nat.le_of_ble_eq_true rfl) (G_X0_sitterAt (by omega) 7 x2 q3.2 q7 hq7) rfl ?_
    show zzEv _ _ _ _ [.int q7.1] _ _
    refine ev_istore_n zo_85_33 rfl (zz_set rfl (by decide) (Nat.le_of_ble_eq_true rfl)) rfl ?_
    show zzEv _ _ _ [.ref 0, .int x1, .int x2, .int q7.1, zzU] _ _ _
    refine ev_iload_n zo_85_34 rfl rfl rfl ?_
    refine ev_iconst (x := (-1)) zo_85_35 (by decide) rfl ?_
    by_cases c8 : q7.1 = (-1 : Int32)
    · rw [if_pos c8] at h
      refine ev_cmp_t (t := 47) zo_85_36 rfl (zcm_eq c8) ?_
      exact G_X6_sit_47 hd x1 x2 q7.2 r h (.int q7.1) rfl
    rw [if_neg c8] at h
    refine ev_cmp_f (t := 47) zo_85_36 rfl (zcm_neq c8) rfl ?_
    refine ev_iload_n zo_85_39 rfl rfl rfl ?_
    refine ev_iload_n zo_85_40 rfl rfl rfl ?_
    by_cases c9 : q7.1 = x1
    · rw [if_pos c9] at h
      refine ev_cmp_t (t := 47) zo_85_41 rfl (zcm_eq c9) ?_
      exact G_X6_sit_47 hd x1 x2 q7.2 r h (.int q7.1) rfl
    rw [if_neg c9] at h
    refine ev_cmp_f (t := 47) zo_85_41 rfl (zcm_neq c9) rfl ?_
    refine ev_bipush (x := (-3)) zo_85_44 (by decide) rfl ?_
    obtain rfl := Option.some.inj h
    exact ev_retI zo_85_46 zr_85
  rw [if_neg c6] at h
  refine ev_cmp_f (t := 25) zo_85_19 rfl (zcm_nlt c6) rfl ?_
  refine ev_bipush (x := (-2)) zo_85_22 (by decide) rfl ?_
  obtain rfl := Option.some.inj h
  exact ev_retI zo_85_24 zr_85
/-! X6_told -/
def F_X6_told (x1 : Int32) (x2 : Int32) (J : zzJ) : Option (Int32 × zzJ) := (if x2 = (0 : Int32) then some ((J.2 7 1), J) else (if x2 = (1 : Int32) then some ((J.2 7 2), J) else (Option.bind (F_X0_has 7 x1 J) fun q3 => (if q3.1 = (0 : Int32) then some ((-2 : Int32), q3.2) else (if x2 = 2 then (Option.bind (F_X0_numberOf 7 x1 q3.2) fun q6 => some (q6.1, q6.2)) else (if x2 = 3 then (Option.bind (F_X0_friendOf 7 x1 q3.2) fun q8 => some (q8.1, q8.2)) else (if x2 = 4 then (Option.bind (F_X0_kindOf 7 x1 q3.2) fun q10 => some (q10.1, q10.2)) else (if x2 = 5 then (Option.bind (F_X0_seatOf 7 x1 q3.2) fun q12 => some (q12.1, q12.2)) else (if x2 = 6 then (Option.bind (F_X0_noise 7 x1 q3.2) fun q14 => some (q14.1, q14.2)) else (if x2 = 7 then (Option.bind (F_X0_queasy 7 x1 (q3.2.2 7 1) q3.2) fun q16 => some (q16.1, q16.2)) else (if x2 = 8 then (Option.bind (F_X0_neighbours 7 x1 q3.2) fun q18 => some (q18.1, q18.2)) else (if x2 = 9 then (Option.bind (F_X0_isWatched 7 x1 q3.2) fun q20 => (if q20.1 = (0 : Int32) then some ((0 : Int32), q20.2) else some ((1 : Int32), q20.2))) else some ((-2 : Int32), q3.2)))))))))))))
set_option maxRecDepth 100000 in
set_option maxHeartbeats 2000000 in
theorem G_X6_told {d : Nat} (hd : 4 ≤ d) (x1 : Int32) (x2 : Int32) (J : zzJ) (r : Int32 × zzJ) (h : F_X6_told x1 x2 J = some r) : zzEv d 86 0 [.ref 0, .int x1, .int x2] [] (zK J) (some (.int r.1), zK r.2) := by
  unfold F_X6_told at h
  refine ev_iload_n zo_86_0 rfl rfl rfl ?_
  by_cases c1 : x2 = (0 : Int32)
  · rw [if_pos c1] at h
    refine ev_if_f (t := 12) zo_86_1 rfl (zcm_nne c1) rfl ?_
    refine ev_aload_n zo_86_4 rfl rfl rfl rfl ?_
    refine ev_getR zo_86_5 zf_86_28 (by decide) rfl rfl rfl rfl ?_
    refine ev_getI zo_86_8 zf_86_101 (by decide) (Or.inl rfl) rfl rfl ?_
    obtain rfl := Option.some.inj h
    exact ev_retI zo_86_11 zr_86
  rw [if_neg c1] at h
  refine ev_if_t (t := 12) zo_86_1 rfl (zcm_ne c1) ?_
  refine ev_iload_n zo_86_12 rfl rfl rfl ?_
  refine ev_iconst (x := 1) zo_86_13 (by decide) rfl ?_
  by_cases c2 : x2 = (1 : Int32)
  · rw [if_pos c2] at h
    refine ev_cmp_f (t := 25) zo_86_14 rfl (zcm_nne c2) rfl ?_
    refine ev_aload_n zo_86_17 rfl rfl rfl rfl ?_
    refine ev_getR zo_86_18 zf_86_28 (by decide) rfl rfl rfl rfl ?_
    refine ev_getI zo_86_21 zf_86_105 (by decide) (Or.inl rfl) rfl rfl ?_
    obtain rfl := Option.some.inj h
    exact ev_retI zo_86_24 zr_86
  rw [if_neg c2] at h
  refine ev_cmp_t (t := 25) zo_86_14 rfl (zcm_ne c2) ?_
  refine ev_aload_n zo_86_25 rfl rfl rfl rfl ?_
  refine ev_getR zo_86_26 zf_86_28 (by decide) rfl rfl rfl rfl ?_
  refine ev_iload_n zo_86_29 rfl rfl rfl ?_
  obtain ⟨q3, hq3, h⟩ := zz_bd h
  refine ev_cV (as := [.int x1]) (lsn := [.ref 7, .int x1]) (by omega) zo_86_30 zl_86_86 (by rw [zm_2]; rfl) (by rw [zm_2]; exact rfl) (by rw [zm_2]; decide) (by unfold zzIn; rw [zm_2]; rfl) (by rw [zm_2]; exact Nat.le_of_ble_eq_true rfl) (Nat.le_of_ble_eq_true rfl) (G_X0_has (by omega) 7 x1 J q3 hq3) rfl ?_
  show zzEv _ _ _ _ [.int q3.1] _ _
  by_cases c4 : q3.1 = (0 : Int32)
  · rw [if_pos c4] at h
    refine ev_if_f (t := 39) zo_86_33 rfl (zcm_nne c4) rfl ?_
    refine ev_bipush (x := (-2)) zo_86_36 (by decide) rfl ?_
    obtain rfl := Option.some.inj h
    exact ev_retI zo_86_38 zr_86
  rw [if_neg c4] at h
  refine ev_if_t (t := 39) zo_86_33 rfl (zcm_ne c4) ?_
  refine ev_iload_n zo_86_39 rfl rfl rfl ?_
  by_cases s5 : x2 = 2
  · rw [if_pos s5] at h
    refine ev_tableIn (t := 88) zo_86_40 s5 rfl ?_
    refine ev_aload_n zo_86_88 rfl rfl rfl rfl ?_
    refine ev_getR zo_86_89 zf_86_28 (by decide) rfl rfl rfl rfl ?_
    refine ev_iload_n zo_86_92 rfl rfl rfl ?_
    obtain ⟨q6, hq6, h⟩ := zz_bd h
    refine ev_cV (as := [.int x1]) (lsn := [.ref 7, .int x1]) (by omega) zo_86_93 zl_86_124 (by rw [zm_5]; rfl) (by rw [zm_5]; exact rfl) (by rw [zm_5]; decide) (by unfold zzIn; rw [zm_5]; rfl) (by rw [zm_5]; exact Nat.le_of_ble_eq_true rfl) (Nat.le_of_ble_eq_true rfl) (G_X0_numberOf (by omega) 7 x1 q3.2 q6 hq6) rfl ?_
    show zzEv _ _ _ _ [.int q6.1] _ _
    obtain rfl := Option.some.inj h
    exact ev_retI zo_86_96 zr_86
  rw [if_neg s5] at h
  by_cases s7 : x2 = 3
  · rw [if_pos s7] at h
    refine ev_tableIn (t := 97) zo_86_40 s7 rfl ?_
    refine ev_aload_n zo_86_97 rfl rfl rfl rfl ?_
    refine ev_getR zo_86_98 zf_86_28 (by decide) rfl rfl rfl rfl ?_
    refine ev_iload_n zo_86_101 rfl rfl rfl ?_
    obtain ⟨q8, hq8, h⟩ := zz_bd h
    refine ev_cV (as := [.int x1]) (lsn := [.ref 7, .int x1]) (by omega) zo_86_102 zl_86_127 (by rw [zm_6]; rfl) (by rw [zm_6]; exact rfl) (by rw [zm_6]; decide) (by unfold zzIn; rw [zm_6]; rfl) (by rw [zm_6]; exact Nat.le_of_ble_eq_true rfl) (Nat.le_of_ble_eq_true rfl) (G_X0_friendOf (by omega) 7 x1 q3.2 q8 hq8) rfl ?_
    show zzEv _ _ _ _ [.int q8.1] _ _
    obtain rfl := Option.some.inj h
    exact ev_retI zo_86_105 zr_86
  rw [if_neg s7] at h
  by_cases s9 : x2 = 4
  · rw [if_pos s9] at h
    refine ev_tableIn (t := 106) zo_86_40 s9 rfl ?_
    refine ev_aload_n zo_86_106 rfl rfl rfl rfl ?_
    refine ev_getR zo_86_107 zf_86_28 (by decide) rfl rfl rfl rfl ?_
    refine ev_iload_n zo_86_110 rfl rfl rfl ?_
    obtain ⟨q10, hq10, h⟩ := zz_bd h
    refine ev_cV (as := [.int x1]) (lsn := [.ref 7, .int x1]) (by omega) zo_86_111 zl_86_130 (by rw [zm_4]; rfl) (by rw [zm_4]; exact rfl) (by rw [zm_4]; decide) (by unfold zzIn; rw [zm_4]; rfl) (by rw [zm_4]; exact Nat.le_of_ble_eq_true rfl) (Nat.le_of_ble_eq_true rfl) (G_X0_kindOf (by omega) 7 x1 q3.2 q10 hq10) rfl ?_
    show zzEv _ _ _ _ [.int q10.1] _ _
    obtain rfl := Option.some.inj h
    exact ev_retI zo_86_114 zr_86
  rw [if_neg s9] at h
  by_cases s11 : x2 = 5
  · rw [if_pos s11] at h
    refine ev_tableIn (t := 115) zo_86_40 s11 rfl ?_
    refine ev_aload_n zo_86_115 rfl rfl rfl rfl ?_
    refine ev_getR zo_86_116 zf_86_28 (by decide) rfl rfl rfl rfl ?_
    refine ev_iload_n zo_86_119 rfl rfl rfl ?_
    obtain ⟨q12, hq12, h⟩ := zz_bd h
    refine ev_cV (as := [.int x1]) (lsn := [.ref 7, .int x1]) (by omega) zo_86_120 zl_86_117 (by rw [zm_7]; rfl) (by rw [zm_7]; exact rfl) (by rw [zm_7]; decide) (by unfold zzIn; rw [zm_7]; rfl) (by rw [zm_7]; exact Nat.le_of_ble_eq_true rfl) (Nat.le_of_ble_eq_true rfl) (G_X0_seatOf (by omega) 7 x1 q3.2 q12 hq12) rfl ?_
    show zzEv _ _ _ _ [.int q12.1] _ _
    obtain rfl := Option.some.inj h
    exact ev_retI zo_86_123 zr_86
  rw [if_neg s11] at h
  by_cases s13 : x2 = 6
  · rw [if_pos s13] at h
    refine ev_tableIn (t := 124) zo_86_40 s13 rfl ?_
    refine ev_aload_n zo_86_124 rfl rfl rfl rfl ?_
    refine ev_getR zo_86_125 zf_86_28 (by decide) rfl rfl rfl rfl ?_
    refine ev_iload_n zo_86_128 rfl rfl rfl ?_
    obtain ⟨q14, hq14, h⟩ := zz_bd h
    refine ev_cV (as := [.int x1]) (lsn := [.ref 7, .int x1, zzU, zzU]) (by omega) zo_86_129 zl_86_133 (by rw [zm_21]; rfl) (by rw [zm_21]; exact rfl) (by rw [zm_21]; decide) (by unfold zzIn; rw [zm_21]; rfl) (by rw [zm_21]; exact Nat.le_of_ble_eq_true rfl) (Nat.le_of_ble_eq_true rfl) (G_X0_noise (by omega) 7 x1 q3.2 q14 hq14) rfl ?_
    show zzEv _ _ _ _ [.int q14.1] _ _
    obtain rfl := Option.some.inj h
    exact ev_retI zo_86_132 zr_86
  rw [if_neg s13] at h
  by_cases s15 : x2 = 7
  · rw [if_pos s15] at h
    refine ev_tableIn (t := 133) zo_86_40 s15 rfl ?_
    refine ev_aload_n zo_86_133 rfl rfl rfl rfl ?_
    refine ev_getR zo_86_134 zf_86_28 (by decide) rfl rfl rfl rfl ?_
    refine ev_iload_n zo_86_137 rfl rfl rfl ?_
    refine ev_aload_n zo_86_138 rfl rfl rfl rfl ?_
    refine ev_getR zo_86_139 zf_86_28 (by decide) rfl rfl rfl rfl ?_
    refine ev_getI zo_86_142 zf_86_101 (by decide) (Or.inl rfl) rfl rfl ?_
    obtain ⟨q16, hq16, h⟩ := zz_bd h
    refine ev_cV (as := [.int (q3.2.2 7 1), .int x1]) (lsn := [.ref 7, .int x1, .int (q3.2.2 7 1), zzU]) (by omega) zo_86_145 zl_86_136 (by rw [zm_22]; rfl) (by rw [zm_22]; exact rfl) (by rw [zm_22]; decide) (by unfold zzIn; rw [zm_22]; rfl) (by rw [zm_22]; exact Nat.le_of_ble_eq_true rfl) (Nat.le_of_ble_eq_true rfl) (G_X0_queasy (by omega) 7 x1 (q3.2.2 7 1) q3.2 q16 hq16) rfl ?_
    show zzEv _ _ _ _ [.int q16.1] _ _
    obtain rfl := Option.some.inj h
    exact ev_retI zo_86_148 zr_86
  rw [if_neg s15] at h
  by_cases s17 : x2 = 8
  · rw [if_pos s17] at h
    refine ev_tableIn (t := 149) zo_86_40 s17 rfl ?_
    refine ev_aload_n zo_86_149 rfl rfl rfl rfl ?_
    refine ev_getR zo_86_150 zf_86_28 (by decide) rfl rfl rfl rfl ?_
    refine ev_iload_n zo_86_153 rfl rfl rfl ?_
    obtain ⟨q18, hq18, h⟩ := zz_bd h
    refine ev_cV (as := [.int x1]) (lsn := [.ref 7, .int x1, zzU, zzU, zzU]) (by omega) zo_86_154 zl_86_139 (by rw [zm_17]; rfl) (by rw [zm_17]; exact rfl) (by rw [zm_17]; decide) (by unfold zzIn; rw [zm_17]; rfl) (by rw [zm_17]; exact Nat.le_of_ble_eq_true rfl) (Nat.le_of_ble_eq_true rfl) (G_X0_neighbours (by omega) 7 x1 q3.2 q18 hq18) rfl ?_
    show zzEv _ _ _ _ [.int q18.1] _ _
    obtain rfl := Option.some.inj h
    exact ev_retI zo_86_157 zr_86
  rw [if_neg s17] at h
  by_cases s19 : x2 = 9
  · rw [if_pos s19] at h
    refine ev_tableIn (t := 158) zo_86_40 s19 rfl ?_
    refine ev_aload_n zo_86_158 rfl rfl rfl rfl ?_
    refine ev_getR zo_86_159 zf_86_28 (by decide) rfl rfl rfl rfl ?_
    refine ev_iload_n zo_86_162 rfl rfl rfl ?_
    obtain ⟨q20, hq20, h⟩ := zz_bd h
    refine ev_cV (as := [.int x1]) (lsn := [.ref 7, .int x1, zzU]) (by omega) zo_86_163 zl_86_142 (by rw [zm_18]; rfl) (by rw [zm_18]; exact rfl) (by rw [zm_18]; decide) (by unfold zzIn; rw [zm_18]; rfl) (by rw [zm_18]; exact Nat.le_of_ble_eq_true rfl) (Nat.le_of_ble_eq_true rfl) (G_X0_isWatched (by omega) 7 x1 q3.2 q20 hq20) rfl ?_
    show zzEv _ _ _ _ [.int q20.1] _ _
    by_cases c21 : q20.1 = (0 : Int32)
    · rw [if_pos c21] at h
      refine ev_if_t (t := 173) zo_86_166 rfl (zcm_eq c21) ?_
      refine ev_iconst (x := 0) zo_86_173 (by decide) rfl ?_
      obtain rfl := Option.some.inj h
      exact ev_retI zo_86_174 zr_86
    rw [if_neg c21] at h
    refine ev_if_f (t := 173) zo_86_166 rfl (zcm_neq c21) rfl ?_
    refine ev_iconst (x := 1) zo_86_169 (by decide) rfl ?_
    refine ev_goto (t := 174) zo_86_170 rfl ?_
    obtain rfl := Option.some.inj h
    exact ev_retI zo_86_174 zr_86
  rw [if_neg s19] at h
  refine ev_tableOut (t := 175) zo_86_40 (sw_out 8 rfl fun k hk => ?_) rfl ?_
  · rcases (show k = 0 ∨ k = 1 ∨ k = 2 ∨ k = 3 ∨ k = 4 ∨ k = 5 ∨ k = 6 ∨ k = 7 by omega) with rfl | rfl | rfl | rfl | rfl | rfl | rfl | rfl
    · exact sw_ne s5 (by decide)
    · exact sw_ne s7 (by decide)
    · exact sw_ne s9 (by decide)
    · exact sw_ne s11 (by decide)
    · exact sw_ne s13 (by decide)
    · exact sw_ne s15 (by decide)
    · exact sw_ne s17 (by decide)
    · exact sw_ne s19 (by decide)
  refine ev_bipush (x := (-2)) zo_86_175 (by decide) rfl ?_
  obtain rfl := Option.some.inj h
  exact ev_retI zo_86_177 zr_86
/-! X6_who -/
def F_X6_who (x1 : Int32) (J : zzJ) : Option (Int32 × zzJ) := (if x1 < (0 : Int32) then some ((-2 : Int32), J) else (if x1 < (24 : Int32) then (Option.bind (F_X0_sitterAt 7 x1 J) fun q3 => some (q3.1, q3.2)) else some ((-2 : Int32), J)))
set_option maxRecDepth 100000 in
set_option maxHeartbeats 2000000 in
theorem G_X6_who {d : Nat} (hd : 1 ≤ d) (x1 : Int32) (J : zzJ) (r : Int32 × zzJ) (h : F_X6_who x1 J = some r) : zzEv d 87 0 [.ref 0, .int x1] [] (zK J) (some (.int r.1), zK r.2) := by
  unfold F_X6_who at h
  refine ev_iload_n zo_87_0 rfl rfl rfl ?_
  by_cases c1 : x1 < (0 : Int32)
  · rw [if_pos c1] at h
    refine ev_if_t (t := 10) zo_87_1 rfl (zcm_lt c1) ?_
    refine ev_bipush (x := (-2)) zo_87_10 (by decide) rfl ?_
    refine ev_goto (t := 23) zo_87_12 rfl ?_
    obtain rfl := Option.some.inj h
    exact ev_retI zo_87_23 zr_87
  rw [if_neg c1] at h
  refine ev_if_f (t := 10) zo_87_1 rfl (zcm_nlt c1) rfl ?_
  refine ev_iload_n zo_87_4 rfl rfl rfl ?_
  refine ev_bipush (x := 24) zo_87_5 (by decide) rfl ?_
  by_cases c2 : x1 < (24 : Int32)
  · rw [if_pos c2] at h
    refine ev_cmp_t (t := 15) zo_87_7 rfl (zcm_lt c2) ?_
    refine ev_aload_n zo_87_15 rfl rfl rfl rfl ?_
    refine ev_getR zo_87_16 zf_87_28 (by decide) rfl rfl rfl rfl ?_
    refine ev_iload_n zo_87_19 rfl rfl rfl ?_
    obtain ⟨q3, hq3, h⟩ := zz_bd h
    refine ev_cV (as := [.int x1]) (lsn := [.ref 7, .int x1]) (by omega) zo_87_20 zl_87_114 (by rw [zm_9]; rfl) (by rw [zm_9]; exact rfl) (by rw [zm_9]; decide) (by unfold zzIn; rw [zm_9]; rfl) (by rw [zm_9]; exact Nat.le_of_ble_eq_true rfl) (Nat.le_of_ble_eq_true rfl) (G_X0_sitterAt (by omega) 7 x1 J q3 hq3) rfl ?_
    show zzEv _ _ _ _ [.int q3.1] _ _
    obtain rfl := Option.some.inj h
    exact ev_retI zo_87_23 zr_87
  rw [if_neg c2] at h
  refine ev_cmp_f (t := 15) zo_87_7 rfl (zcm_nlt c2) rfl ?_
  refine ev_bipush (x := (-2)) zo_87_10 (by decide) rfl ?_
  refine ev_goto (t := 23) zo_87_12 rfl ?_
  obtain rfl := Option.some.inj h
  exact ev_retI zo_87_23 zr_87
/-! X6_feed -/
def F_X6_feed (x1 : Int32) (J : zzJ) : Option (Int32 × zzJ) := (if x1 < (0 : Int32) then some ((-2 : Int32), J) else (if (255 : Int32) < x1 then some ((-2 : Int32), J) else (if (J.2 5 2) < (160 : Int32) then (Option.bind (F_X2_append x1 J) fun q4 => some (q4.1, q4.2)) else some ((-4 : Int32), J))))
set_option maxRecDepth 100000 in
set_option maxHeartbeats 2000000 in
theorem G_X6_feed {d : Nat} (hd : 2 ≤ d) (x1 : Int32) (J : zzJ) (r : Int32 × zzJ) (h : F_X6_feed x1 J = some r) : zzEv d 88 0 [.ref 0, .int x1] [] (zK J) (some (.int r.1), zK r.2) := by
  unfold F_X6_feed at h
  refine ev_iload_n zo_88_0 rfl rfl rfl ?_
  by_cases c1 : x1 < (0 : Int32)
  · rw [if_pos c1] at h
    refine ev_if_t (t := 11) zo_88_1 rfl (zcm_lt c1) ?_
    refine ev_bipush (x := (-2)) zo_88_11 (by decide) rfl ?_
    obtain rfl := Option.some.inj h
    exact ev_retI zo_88_13 zr_88
  rw [if_neg c1] at h
  refine ev_if_f (t := 11) zo_88_1 rfl (zcm_nlt c1) rfl ?_
  refine ev_iload_n zo_88_4 rfl rfl rfl ?_
  refine ev_sipush (x := 255) zo_88_5 (by decide) rfl ?_
  by_cases c2 : (255 : Int32) < x1
  · rw [if_pos c2] at h
    refine ev_cmp_f (t := 14) zo_88_8 rfl (zcm_nle c2) rfl ?_
    refine ev_bipush (x := (-2)) zo_88_11 (by decide) rfl ?_
    obtain rfl := Option.some.inj h
    exact ev_retI zo_88_13 zr_88
  rw [if_neg c2] at h
  refine ev_cmp_t (t := 14) zo_88_8 rfl (zcm_le c2) ?_
  refine ev_aload_n zo_88_14 rfl rfl rfl rfl ?_
  refine ev_getR zo_88_15 zf_88_21 (by decide) rfl rfl rfl rfl ?_
  refine ev_getI zo_88_18 zf_88_145 (by decide) (Or.inl rfl) rfl rfl ?_
  refine ev_sipush (x := 160) zo_88_21 (by decide) rfl ?_
  by_cases c3 : (J.2 5 2) < (160 : Int32)
  · rw [if_pos c3] at h
    refine ev_cmp_t (t := 32) zo_88_24 rfl (zcm_lt c3) ?_
    refine ev_aload_n zo_88_32 rfl rfl rfl rfl ?_
    refine ev_getR zo_88_33 zf_88_21 (by decide) rfl rfl rfl rfl ?_
    refine ev_iload_n zo_88_36 rfl rfl rfl ?_
    obtain ⟨q4, hq4, h⟩ := zz_bd h
    refine ev_cV (as := [.int x1]) (lsn := [.ref 5, .int x1]) (by omega) zo_88_37 zl_88_75 (by rw [zm_40]; rfl) (by rw [zm_40]; exact rfl) (by rw [zm_40]; decide) (by unfold zzIn; rw [zm_40]; rfl) (by rw [zm_40]; exact Nat.le_of_ble_eq_true rfl) (Nat.le_of_ble_eq_true rfl) (G_X2_append (by omega) x1 J q4 hq4) rfl ?_
    show zzEv _ _ _ _ [.int q4.1] _ _
    obtain rfl := Option.some.inj h
    exact ev_retI zo_88_40 zr_88
  rw [if_neg c3] at h
  refine ev_cmp_f (t := 32) zo_88_24 rfl (zcm_nlt c3) rfl ?_
  refine ev_bipush (x := (-4)) zo_88_27 (by decide) rfl ?_
  refine ev_goto (t := 40) zo_88_29 rfl ?_
  obtain rfl := Option.some.inj h
  exact ev_retI zo_88_40 zr_88
/-! X6_text -/
def F_X6_text (J : zzJ) : Option (Int32 × zzJ) := (if (J.2 1 3) < (6 : Int32) then (Option.bind (F_X2_read J) fun q2 => (if q2.1 = (-1 : Int32) then some (((q2.2.2 1 3) - (1 : Int32)), q2.2) else some (((-100 : Int32) - q2.1), q2.2))) else some ((-4 : Int32), J))
set_option maxRecDepth 100000 in
set_option maxHeartbeats 2000000 in
theorem G_X6_text {d : Nat} (hd : 100 ≤ d) (J : zzJ) (r : Int32 × zzJ) (h : F_X6_text J = some r) : zzEv d 89 0 [.ref 0, zzU] [] (zK J) (some (.int r.1), zK r.2) := by
  unfold F_X6_text at h
  refine ev_aload_n zo_89_0 rfl rfl rfl rfl ?_
  refine ev_getR zo_89_1 zf_89_12 (by decide) rfl rfl rfl rfl ?_
  refine ev_getI zo_89_4 zf_89_146 (by decide) (Or.inl rfl) rfl rfl ?_
  refine ev_bipush (x := 6) zo_89_7 (by decide) rfl ?_
  by_cases c1 : (J.2 1 3) < (6 : Int32)
  · rw [if_pos c1] at h
    refine ev_cmp_t (t := 15) zo_89_9 rfl (zcm_lt c1) ?_
    refine ev_aload_n zo_89_15 rfl rfl rfl rfl ?_
    refine ev_getR zo_89_16 zf_89_21 (by decide) rfl rfl rfl rfl ?_
    obtain ⟨q2, hq2, h⟩ := zz_bd h
    refine ev_cV (as := []) (lsn := [.ref 5, zzU]) (by omega) zo_89_19 zl_89_79 (by rw [zm_41]; rfl) (by rw [zm_41]; exact rfl) (by rw [zm_41]; decide) (by unfold zzIn; rw [zm_41]; rfl) (by rw [zm_41]; exact Nat.le_of_ble_eq_true rfl) (Nat.le_of_ble_eq_true rfl) (G_X2_read (by omega) J q2 hq2) rfl ?_
    show zzEv _ _ _ _ [.int q2.1] _ _
    refine ev_istore_n zo_89_22 rfl (zz_set rfl (by decide) (Nat.le_of_ble_eq_true rfl)) rfl ?_
    show zzEv _ _ _ [.ref 0, .int q2.1] _ _ _
    refine ev_iload_n zo_89_23 rfl rfl rfl ?_
    refine ev_iconst (x := (-1)) zo_89_24 (by decide) rfl ?_
    by_cases c3 : q2.1 = (-1 : Int32)
    · rw [if_pos c3] at h
      refine ev_cmp_f (t := 40) zo_89_25 rfl (zcm_nne c3) rfl ?_
      refine ev_aload_n zo_89_28 rfl rfl rfl rfl ?_
      refine ev_getR zo_89_29 zf_89_12 (by decide) rfl rfl rfl rfl ?_
      refine ev_getI zo_89_32 zf_89_146 (by decide) (Or.inl rfl) rfl rfl ?_
      refine ev_iconst (x := 1) zo_89_35 (by decide) rfl ?_
      refine ev_isub zo_89_36 rfl ?_
      refine ev_goto (t := 44) zo_89_37 rfl ?_
      obtain rfl := Option.some.inj h
      exact ev_retI zo_89_44 zr_89
    rw [if_neg c3] at h
    refine ev_cmp_t (t := 40) zo_89_25 rfl (zcm_ne c3) ?_
    refine ev_bipush (x := (-100)) zo_89_40 (by decide) rfl ?_
    refine ev_iload_n zo_89_42 rfl rfl rfl ?_
    refine ev_isub zo_89_43 rfl ?_
    obtain rfl := Option.some.inj h
    exact ev_retI zo_89_44 zr_89
  rw [if_neg c1] at h
  refine ev_cmp_f (t := 15) zo_89_9 rfl (zcm_nlt c1) rfl ?_
  refine ev_bipush (x := (-4)) zo_89_12 (by decide) rfl ?_
  obtain rfl := Option.some.inj h
  exact ev_retI zo_89_14 zr_89
/-! X6_force -/
def F_X6_force (x1 : Int32) (J : zzJ) : Option (Int32 × zzJ) := (if x1 < (0 : Int32) then some ((-2 : Int32), J) else (if x1 < (J.2 1 3) then some ((J.2 7 3), (wI J 7 3 x1)) else some ((-2 : Int32), J)))
set_option maxRecDepth 100000 in
set_option maxHeartbeats 2000000 in
theorem G_X6_force {d : Nat} (hd : 0 ≤ d) (x1 : Int32) (J : zzJ) (r : Int32 × zzJ) (h : F_X6_force x1 J = some r) : zzEv d 90 0 [.ref 0, .int x1, zzU] [] (zK J) (some (.int r.1), zK r.2) := by
  unfold F_X6_force at h
  refine ev_iload_n zo_90_0 rfl rfl rfl ?_
  by_cases c1 : x1 < (0 : Int32)
  · rw [if_pos c1] at h
    refine ev_if_t (t := 15) zo_90_1 rfl (zcm_lt c1) ?_
    refine ev_bipush (x := (-2)) zo_90_15 (by decide) rfl ?_
    obtain rfl := Option.some.inj h
    exact ev_retI zo_90_17 zr_90
  rw [if_neg c1] at h
  refine ev_if_f (t := 15) zo_90_1 rfl (zcm_nlt c1) rfl ?_
  refine ev_iload_n zo_90_4 rfl rfl rfl ?_
  refine ev_aload_n zo_90_5 rfl rfl rfl rfl ?_
  refine ev_getR zo_90_6 zf_90_12 (by decide) rfl rfl rfl rfl ?_
  refine ev_getI zo_90_9 zf_90_146 (by decide) (Or.inl rfl) rfl rfl ?_
  by_cases c2 : x1 < (J.2 1 3)
  · rw [if_pos c2] at h
    refine ev_cmp_t (t := 18) zo_90_12 rfl (zcm_lt c2) ?_
    refine ev_aload_n zo_90_18 rfl rfl rfl rfl ?_
    refine ev_getR zo_90_19 zf_90_28 (by decide) rfl rfl rfl rfl ?_
    refine ev_getI zo_90_22 zf_90_147 (by decide) (Or.inl rfl) rfl rfl ?_
    refine ev_istore_n zo_90_25 rfl (zz_set rfl (by decide) (Nat.le_of_ble_eq_true rfl)) rfl ?_
    show zzEv _ _ _ [.ref 0, .int x1, .int (J.2 7 3)] _ _ _
    refine ev_aload_n zo_90_26 rfl rfl rfl rfl ?_
    refine ev_getR zo_90_27 zf_90_28 (by decide) rfl rfl rfl rfl ?_
    refine ev_iload_n zo_90_30 rfl rfl rfl ?_
    refine ev_putI zo_90_31 zf_90_147 (by decide) rfl rfl rfl rfl ?_
    refine ev_iload_n zo_90_34 rfl rfl rfl ?_
    obtain rfl := Option.some.inj h
    exact ev_retI zo_90_35 zr_90
  rw [if_neg c2] at h
  refine ev_cmp_f (t := 18) zo_90_12 rfl (zcm_nlt c2) rfl ?_
  refine ev_bipush (x := (-2)) zo_90_15 (by decide) rfl ?_
  obtain rfl := Option.some.inj h
  exact ev_retI zo_90_17 zr_90
