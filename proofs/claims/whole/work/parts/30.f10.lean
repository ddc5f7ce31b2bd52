/-! the methods as functions, and that they are (written by wip/whole/gen2.py) -/
/-! X7_firstTeacher -/
def F_X7_firstTeacher_2 : Nat → Int32 → zzJ → Option (Int32 × zzJ)
  | 0, _, _ => none
  | n + 1, l1, J => (if l1 < (J.2 46 14) then (if zzIx l1 8 then (if (J.2 50 l1.toNatClampNeg) = (5 : Int32) then (if zzIx l1 8 then (if (J.2 53 l1.toNatClampNeg) = (-1 : Int32) then F_X7_firstTeacher_2 n (l1 + 1) J else some (l1, J)) else none) else F_X7_firstTeacher_2 n (l1 + 1) J) else none) else some ((-1 : Int32), J))
set_option maxRecDepth 100000 in
set_option maxHeartbeats 2000000 in
theorem G_X7_firstTeacher_2 {d : Nat} (hd : 0 ≤ d) : ∀ (n : Nat) (l1 : Int32) (J : zzJ) (r : Int32 × zzJ), F_X7_firstTeacher_2 n l1 J = some r → zzEv d 187 2 [.ref 46, .int l1] [] (zK J) (some (.int r.1), zK r.2) := by
  intro n
  induction n with
  | zero => intro l1 J r h; simp [F_X7_firstTeacher_2] at h
  | succ n ih =>
    intro l1 J r h
    rw [F_X7_firstTeacher_2] at h
    refine ev_iload_n zo_187_2 rfl rfl rfl ?_
    refine ev_aload_n zo_187_3 rfl rfl rfl rfl ?_
    refine ev_getI zo_187_4 zf_187_85 (by decide) (Or.inl rfl) rfl rfl ?_
    by_cases c1 : l1 < (J.2 46 14)
    · rw [if_pos c1] at h
      refine ev_cmp_f (t := 38) zo_187_7 rfl (zcm_nge c1) rfl ?_
      refine ev_aload_n zo_187_10 rfl rfl rfl rfl ?_
      refine ev_getR zo_187_11 zf_187_26 (by decide) rfl rfl rfl rfl ?_
      refine ev_iload_n zo_187_14 rfl rfl rfl ?_
      obtain ⟨c2, h⟩ := zz_chk h
      refine ev_iald zo_187_15 rfl c2 rfl ?_
      refine ev_iconst (x := 5) zo_187_16 (by decide) rfl ?_
      by_cases c3 : (J.2 50 l1.toNatClampNeg) = (5 : Int32)
      · rw [if_pos c3] at h
        refine ev_cmp_f (t := 32) zo_187_17 rfl (zcm_nne c3) rfl ?_
        refine ev_aload_n zo_187_20 rfl rfl rfl rfl ?_
        refine ev_getR zo_187_21 zf_187_35 (by decide) rfl rfl rfl rfl ?_
        refine ev_iload_n zo_187_24 rfl rfl rfl ?_
        obtain ⟨c4, h⟩ := zz_chk h
        refine ev_iald zo_187_25 rfl c4 rfl ?_
        refine ev_iconst (x := (-1)) zo_187_26 (by decide) rfl ?_
        by_cases c5 : (J.2 53 l1.toNatClampNeg) = (-1 : Int32)
        · rw [if_pos c5] at h
          refine ev_cmp_t (t := 32) zo_187_27 rfl (zcm_eq c5) ?_
          refine ev_iinc (v := 1) zo_187_32 rfl (by decide) (zz_set rfl (by decide) (Nat.le_of_ble_eq_true rfl)) rfl ?_
          show zzEv _ _ _ [.ref 46, .int (l1 + 1)] _ _ _
          refine ev_goto (t := 2) zo_187_35 rfl ?_
          exact ih (l1 + 1) J r h
        rw [if_neg c5] at h
        refine ev_cmp_f (t := 32) zo_187_27 rfl (zcm_neq c5) rfl ?_
        refine ev_iload_n zo_187_30 rfl rfl rfl ?_
        obtain rfl := Option.some.inj h
        exact ev_retI zo_187_31 zr_187
      rw [if_neg c3] at h
      refine ev_cmp_t (t := 32) zo_187_17 rfl (zcm_ne c3) ?_
      refine ev_iinc (v := 1) zo_187_32 rfl (by decide) (zz_set rfl (by decide) (Nat.le_of_ble_eq_true rfl)) rfl ?_
      show zzEv _ _ _ [.ref 46, .int (l1 + 1)] _ _ _
      refine ev_goto (t := 2) zo_187_35 rfl ?_
      exact ih (l1 + 1) J r h
    rw [if_neg c1] at h
    refine ev_cmp_t (t := 38) zo_187_7 rfl (zcm_ge c1) ?_
    refine ev_iconst (x := (-1)) zo_187_38 (by decide) rfl ?_
    obtain rfl := Option.some.inj h
    exact ev_retI zo_187_39 zr_187
def F_X7_firstTeacher (J : zzJ) : Option (Int32 × zzJ) := F_X7_firstTeacher_2 4096 (0 : Int32) J
set_option maxRecDepth 100000 in
set_option maxHeartbeats 2000000 in
theorem G_X7_firstTeacher {d : Nat} (hd : 0 ≤ d) (J : zzJ) (r : Int32 × zzJ) (h : F_X7_firstTeacher J = some r) : zzEv d 187 0 [.ref 46, zzU] [] (zK J) (some (.int r.1), zK r.2) := by
  unfold F_X7_firstTeacher at h
  refine ev_iconst (x := 0) zo_187_0 (by decide) rfl ?_
  refine ev_istore_n zo_187_1 rfl (zz_set rfl (by decide) (Nat.le_of_ble_eq_true rfl)) rfl ?_
  show zzEv _ _ _ [.ref 46, .int (0 : Int32)] _ _ _
  exact G_X7_firstTeacher_2 hd 4096 (0 : Int32) J r h
/-! X7_watch -/
def F_X7_watch_135 (kl_67 : Int32 → Int32 → Int32 → Int32 → zzJ → Option (Int32 × zzJ)) (kl_79 : Int32 → Int32 → Int32 → Int32 → Int32 → zzJ → Option (Int32 × zzJ)) (l1 : Int32) (l3 : Int32) (l4 : Int32) (l5 : Int32) (l6 : Int32) (t0 : Int32) (J : zzJ) : Option (Int32 × zzJ) := (if t0 = (0 : Int32) then kl_79 l1 l3 l4 l5 (l6 + 1) J else (Option.bind (F_X7_looksAt l5 l6 J) fun q2 => kl_79 l1 l3 l4 l5 (l6 + 1) q2))
set_option maxRecDepth 100000 in
set_option maxHeartbeats 2000000 in
theorem G_X7_watch_135 {d : Nat} (kl_67 : Int32 → Int32 → Int32 → Int32 → zzJ → Option (Int32 × zzJ)) (kl_79 : Int32 → Int32 → Int32 → Int32 → Int32 → zzJ → Option (Int32 × zzJ)) (hkl_67 : ∀ (l1 : Int32) (l3 : Int32) (l4 : Int32) (l5 : Int32) (J : zzJ) (r : Int32 × zzJ), kl_67 l1 l3 l4 l5 J = some r → ∀ (lv2 : Value) (hlv2 : lv2.category = 1), ∀ (lv6 : Value) (hlv6 : lv6.category = 1), ∀ (lv7 : Value) (hlv7 : lv7.category = 1), zzEv d 188 67 [.ref 46, .int l1, lv2, .int l3, .int l4, .int l5, lv6, lv7] [] (zK J) (some (.int r.1), zK r.2)) (hkl_79 : ∀ (l1 : Int32) (l3 : Int32) (l4 : Int32) (l5 : Int32) (l6 : Int32) (J : zzJ) (r : Int32 × zzJ), kl_79 l1 l3 l4 l5 l6 J = some r → ∀ (lv2 : Value) (hlv2 : lv2.category = 1), ∀ (lv7 : Value) (hlv7 : lv7.category = 1), zzEv d 188 79 [.ref 46, .int l1, lv2, .int l3, .int l4, .int l5, .int l6, lv7] [] (zK J) (some (.int r.1), zK r.2)) (hd : 96 ≤ d) : ∀ (l1 : Int32) (l3 : Int32) (l4 : Int32) (l5 : Int32) (l6 : Int32) (t0 : Int32) (J : zzJ) (r : Int32 × zzJ), F_X7_watch_135 kl_67 kl_79 l1 l3 l4 l5 l6 t0 J = some r → ∀ (lv2 : Value) (hlv2 : lv2.category = 1), ∀ (lv7 : Value) (hlv7 : lv7.category = 1), zzEv d 188 135 [.ref 46, .int l1, lv2, .int l3, .int l4, .int l5, .int l6, lv7] [.int t0] (zK J) (some (.int r.1), zK r.2) := by
  intro l1 l3 l4 l5 l6 t0 J r h lv2 hlv2 lv7 hlv7
  unfold F_X7_watch_135 at h
  refine ev_istore zo_188_135 (zz_set rfl (by decide) (Nat.le_of_ble_eq_true rfl)) rfl ?_
  show zzEv _ _ _ [.ref 46, .int l1, lv2, .int l3, .int l4, .int l5, .int l6, .int t0] _ _ _
  refine ev_iload zo_188_137 rfl rfl ?_
  by_cases c1 : t0 = (0 : Int32)
  · rw [if_pos c1] at h
    refine ev_if_t (t := 150) zo_188_139 rfl (zcm_eq c1) ?_
    refine ev_iinc (v := 1) zo_188_150 rfl (by decide) (zz_set rfl (by decide) (Nat.le_of_ble_eq_true rfl)) rfl ?_
    show zzEv _ _ _ [.ref 46, .int l1, lv2, .int l3, .int l4, .int l5, .int (l6 + 1), .int t0] _ _ _
    refine ev_goto (t := 79) zo_188_153 rfl ?_
    exact hkl_79 l1 l3 l4 l5 (l6 + 1) J r h (lv2) hlv2 (.int t0) rfl
  rw [if_neg c1] at h
  refine ev_if_f (t := 150) zo_188_139 rfl (zcm_neq c1) rfl ?_
  refine ev_aload_n zo_188_142 rfl rfl rfl rfl ?_
  refine ev_iload zo_188_143 rfl rfl ?_
  refine ev_iload zo_188_145 rfl rfl ?_
  obtain ⟨q2, hq2, h⟩ := zz_bd h
  refine ev_cV (as := [.int l6, .int l5]) (lsn := [.ref 46, .int l5, .int l6, zzU]) (by omega) zo_188_147 zl_188_313 (by rw [zm_185]; rfl) (by rw [zm_185]; exact rfl) (by rw [zm_185]; decide) (by unfold zzIn; rw [zm_185]; rfl) (by rw [zm_185]; exact Nat.le_of_ble_eq_true rfl) (Nat.le_of_ble_eq_true rfl) (G_X7_looksAt (by omega) l5 l6 J q2 hq2) rfl ?_
  show zzEv _ _ _ _ [] _ _
  refine ev_iinc (v := 1) zo_188_150 rfl (by decide) (zz_set rfl (by decide) (Nat.le_of_ble_eq_true rfl)) rfl ?_
  show zzEv _ _ _ [.ref 46, .int l1, lv2, .int l3, .int l4, .int l5, .int (l6 + 1), .int t0] _ _ _
  refine ev_goto (t := 79) zo_188_153 rfl ?_
  exact hkl_79 l1 l3 l4 l5 (l6 + 1) q2 r h (lv2) hlv2 (.int t0) rfl
def F_X7_watch_134 (kl_67 : Int32 → Int32 → Int32 → Int32 → zzJ → Option (Int32 × zzJ)) (kl_79 : Int32 → Int32 → Int32 → Int32 → Int32 → zzJ → Option (Int32 × zzJ)) (l1 : Int32) (l3 : Int32) (l4 : Int32) (l5 : Int32) (l6 : Int32) (J : zzJ) : Option (Int32 × zzJ) := F_X7_watch_135 kl_67 kl_79 l1 l3 l4 l5 l6 (0 : Int32) J
set_option maxRecDepth 100000 in
set_option maxHeartbeats 2000000 in
theorem G_X7_watch_134 {d : Nat} (kl_67 : Int32 → Int32 → Int32 → Int32 → zzJ → Option (Int32 × zzJ)) (kl_79 : Int32 → Int32 → Int32 → Int32 → Int32 → zzJ → Option (Int32 × zzJ)) (hkl_67 : ∀ (l1 : Int32) (l3 : Int32) (l4 : Int32) (l5 : Int32) (J : zzJ) (r : Int32 × zzJ), kl_67 l1 l3 l4 l5 J = some r → ∀ (lv2 : Value) (hlv2 : lv2.category = 1), ∀ (lv6 : Value) (hlv6 : lv6.category = 1), ∀ (lv7 : Value) (hlv7 : lv7.category = 1), zzEv d 188 67 [.ref 46, .int l1, lv2, .int l3, .int l4, .int l5, lv6, lv7] [] (zK J) (some (.int r.1), zK r.2)) (hkl_79 : ∀ (l1 : Int32) (l3 : Int32) (l4 : Int32) (l5 : Int32) (l6 : Int32) (J : zzJ) (r : Int32 × zzJ), kl_79 l1 l3 l4 l5 l6 J = some r → ∀ (lv2 : Value) (hlv2 : lv2.category = 1), ∀ (lv7 : Value) (hlv7 : lv7.category = 1), zzEv d 188 79 [.ref 46, .int l1, lv2, .int l3, .int l4, .int l5, .int l6, lv7] [] (zK J) (some (.int r.1), zK r.2)) (hd : 96 ≤ d) : ∀ (l1 : Int32) (l3 : Int32) (l4 : Int32) (l5 : Int32) (l6 : Int32) (J : zzJ) (r : Int32 × zzJ), F_X7_watch_134 kl_67 kl_79 l1 l3 l4 l5 l6 J = some r → ∀ (lv2 : Value) (hlv2 : lv2.category = 1), ∀ (lv7 : Value) (hlv7 : lv7.category = 1), zzEv d 188 134 [.ref 46, .int l1, lv2, .int l3, .int l4, .int l5, .int l6, lv7] [] (zK J) (some (.int r.1), zK r.2) := by
  intro l1 l3 l4 l5 l6 J r h lv2 hlv2 lv7 hlv7
  unfold F_X7_watch_134 at h
  refine ev_iconst (x := 0) zo_188_134 (by decide) rfl ?_
  exact G_X7_watch_135 kl_67 kl_79 hkl_67 hkl_79 hd l1 l3 l4 l5 l6 (0 : Int32) J r h (lv2) hlv2 (lv7) hlv7
def F_X7_watch_130 (kl_67 : Int32 → Int32 → Int32 → Int32 → zzJ → Option (Int32 × zzJ)) (kl_79 : Int32 → Int32 → Int32 → Int32 → Int32 → zzJ → Option (Int32 × zzJ)) (l1 : Int32) (l3 : Int32) (l4 : Int32) (l5 : Int32) (l6 : Int32) (J : zzJ) : Option (Int32 × zzJ) := F_X7_watch_135 kl_67 kl_79 l1 l3 l4 l5 l6 (1 : Int32) J
set_option maxRecDepth 100000 in
set_option maxHeartbeats 2000000 in
theorem G_X7_watch_130 {d : Nat} (kl_67 : Int32 → Int32 → Int32 → Int32 → zzJ → Option (Int32 × zzJ)) (kl_79 : Int32 → Int32 → Int32 → Int32 → Int32 → zzJ → Option (Int32 × zzJ)) (hkl_67 : ∀ (l1 : Int32) (l3 : Int32) (l4 : Int32) (l5 : Int32) (J : zzJ) (r : Int32 × zzJ), kl_67 l1 l3 l4 l5 J = some r → ∀ (lv2 : Value) (hlv2 : lv2.category = 1), ∀ (lv6 : Value) (hlv6 : lv6.category = 1), ∀ (lv7 : Value) (hlv7 : lv7.category = 1), zzEv d 188 67 [.ref 46, .int l1, lv2, .int l3, .int l4, .int l5, lv6, lv7] [] (zK J) (some (.int r.1), zK r.2)) (hkl_79 : ∀ (l1 : Int32) (l3 : Int32) (l4 : Int32) (l5 : Int32) (l6 : Int32) (J : zzJ) (r : Int32 × zzJ), kl_79 l1 l3 l4 l5 l6 J = some r → ∀ (lv2 : Value) (hlv2 : lv2.category = 1), ∀ (lv7 : Value) (hlv7 : lv7.category = 1), zzEv d 188 79 [.ref 46, .int l1, lv2, .int l3, .int l4, .int l5, .int l6, lv7] [] (zK J) (some (.int r.1), zK r.2)) (hd : 96 ≤ d) : ∀ (l1 : Int32) (l3 : Int32) (l4 : Int32) (l5 : Int32) (l6 : Int32) (J : zzJ) (r : Int32 × zzJ), F_X7_watch_130 kl_67 kl_79 l1 l3 l4 l5 l6 J = some r → ∀ (lv2 : Value) (hlv2 : lv2.category = 1), ∀ (lv7 : Value) (hlv7 : lv7.category = 1), zzEv d 188 130 [.ref 46, .int l1, lv2, .int l3, .int l4, .int l5, .int l6, lv7] [] (zK J) (some (.int r.1), zK r.2) := by
  intro l1 l3 l4 l5 l6 J r h lv2 hlv2 lv7 hlv7
  unfold F_X7_watch_130 at h
  refine ev_iconst (x := 1) zo_188_130 (by decide) rfl ?_
  refine ev_goto (t := 135) zo_188_131 rfl ?_
  exact G_X7_watch_135 kl_67 kl_79 hkl_67 hkl_79 hd l1 l3 l4 l5 l6 (1 : Int32) J r h (lv2) hlv2 (lv7) hlv7
def F_X7_watch_79 (kl_67 : Int32 → Int32 → Int32 → Int32 → zzJ → Option (Int32 × zzJ)) : Nat → Int32 → Int32 → Int32 → Int32 → Int32 → zzJ → Option (Int32 × zzJ)
  | 0, _, _, _, _, _, _ => none
  | n + 1, l1, l3, l4, l5, l6, J => (if l6 < (J.2 46 14) then (if l5 = l6 then F_X7_watch_134 kl_67 (F_X7_watch_79 kl_67 n) l1 l3 l4 l5 l6 J else (if zzIx l5 8 then (if (J.2 50 l5.toNatClampNeg) = (5 : Int32) then F_X7_watch_134 kl_67 (F_X7_watch_79 kl_67 n) l1 l3 l4 l5 l6 J else (if zzIx l5 8 then (if (J.2 53 l5.toNatClampNeg) = (-1 : Int32) then F_X7_watch_134 kl_67 (F_X7_watch_79 kl_67 n) l1 l3 l4 l5 l6 J else (if l6 = l3 then F_X7_watch_130 kl_67 (F_X7_watch_79 kl_67 n) l1 l3 l4 l5 l6 J else (if l6 = l4 then F_X7_watch_130 kl_67 (F_X7_watch_79 kl_67 n) l1 l3 l4 l5 l6 J else F_X7_watch_134 kl_67 (F_X7_watch_79 kl_67 n) l1 l3 l4 l5 l6 J))) else none)) else none)) else kl_67 l1 l3 l4 (l5 + 1) J)
set_option maxRecDepth 100000 in
set_option maxHeartbeats 2000000 in
theorem G_X7_watch_79 {d : Nat} (kl_67 : Int32 → Int32 → Int32 → Int32 → zzJ → Option (Int32 × zzJ)) (hkl_67 : ∀ (l1 : Int32) (l3 : Int32) (l4 : Int32) (l5 : Int32) (J : zzJ) (r : Int32 × zzJ), kl_67 l1 l3 l4 l5 J = some r → ∀ (lv2 : Value) (hlv2 : lv2.category = 1), ∀ (lv6 : Value) (hlv6 : lv6.category = 1), ∀ (lv7 : Value) (hlv7 : lv7.category = 1), zzEv d 188 67 [.ref 46, .int l1, lv2, .int l3, .int l4, .int l5, lv6, lv7] [] (zK J) (some (.int r.1), zK r.2)) (hd : 96 ≤ d) : ∀ (n : Nat) (l1 : Int32) (l3 : Int32) (l4 : Int32) (l5 : Int32) (l6 : Int32) (J : zzJ) (r : Int32 × zzJ), F_X7_watch_79 kl_67 n l1 l3 l4 l5 l6 J = some r → ∀ (lv2 : Value) (hlv2 : lv2.category = 1), ∀ (lv7 : Value) (hlv7 : lv7.category = 1), zzEv d 188 79 [.ref 46, .int l1, lv2, .int l3, .int l4, .int l5, .int l6, lv7] [] (zK J) (some (.int r.1), zK r.2) := by
  intro n
  induction n with
  | zero => intro l1 l3 l4 l5 l6 J r h; simp [F_X7_watch_79] at h
  | succ n ih =>
    intro l1 l3 l4 l5 l6 J r h lv2 hlv2 lv7 hlv7
    rw [F_X7_watch_79] at h
    refine ev_iload zo_188_79 rfl rfl ?_
    refine ev_aload_n zo_188_81 rfl rfl rfl rfl ?_
    refine ev_getI zo_188_82 zf_188_85 (by decide) (Or.inl rfl) rfl rfl ?_
    by_cases c3 : l6 < (J.2 46 14)
    · rw [if_pos c3] at h
      refine ev_cmp_f (t := 156) zo_188_85 rfl (zcm_nge c3) rfl ?_
      refine ev_iload zo_188_88 rfl rfl ?_
      refine ev_iload zo_188_90 rfl rfl ?_
      by_cases c4 : l5 = l6
      · rw [if_pos c4] at h
        refine ev_cmp_t (t := 134) zo_188_92 rfl (zcm_eq c4) ?_
        exact G_X7_watch_134 kl_67 (F_X7_watch_79 kl_67 n) hkl_67 ih hd l1 l3 l4 l5 l6 J r h (lv2) hlv2 (lv7) hlv7
      rw [if_neg c4] at h
      refine ev_cmp_f (t := 134) zo_188_92 rfl (zcm_neq c4) rfl ?_
      refine ev_aload_n zo_188_95 rfl rfl rfl rfl ?_
      refine ev_getR zo_188_96 zf_188_26 (by decide) rfl rfl rfl rfl ?_
      refine ev_iload zo_188_99 rfl rfl ?_
      obtain ⟨c5, h⟩ := zz_chk h
      refine ev_iald zo_188_101 rfl c5 rfl ?_
      refine ev_iconst (x := 5) zo_188_102 (by decide) rfl ?_
      by_cases c6 : (J.2 50 l5.toNatClampNeg) = (5 : Int32)
      · rw [if_pos c6] at h
        refine ev_cmp_t (t := 134) zo_188_103 rfl (zcm_eq c6) ?_
        exact G_X7_watch_134 kl_67 (F_X7_watch_79 kl_67 n) hkl_67 ih hd l1 l3 l4 l5 l6 J r h (lv2) hlv2 (lv7) hlv7
      rw [if_neg c6] at h
      refine ev_cmp_f (t := 134) zo_188_103 rfl (zcm_neq c6) rfl ?_
      refine ev_aload_n zo_188_106 rfl rfl rfl rfl ?_
      refine ev_getR zo_188_107 zf_188_35 (by decide) rfl rfl rfl rfl ?_
      refine ev_iload zo_188_110 rfl rfl ?_
      obtain ⟨c7, h⟩ := zz_chk h
      refine ev_iald zo_188_112 rfl c7 rfl ?_
      refine ev_iconst (x := (-1)) zo_188_113 (by decide) rfl ?_
      by_cases c8 : (J.2 53 l5.toNatClampNeg) = (-1 : Int32)
      · rw [if_pos c8] at h
        refine ev_cmp_t (t := 134) zo_188_114 rfl (zcm_eq c8) ?_
        exact G_X7_watch_134 kl_67 (F_X7_watch_79 kl_67 n) hkl_67 ih hd l1 l3 l4 l5 l6 J r h (lv2) hlv2 (lv7) hlv7
      rw [if_neg c8] at h
      refine ev_cmp_f (t := 134) zo_188_114 rfl (zcm_neq c8) rfl ?_
      refine ev_iload zo_188_117 rfl rfl ?_
      refine ev_iload_n zo_188_119 rfl rfl rfl ?_
      by_cases c9 : l6 = l3
      · rw [if_pos c9] at h
        refine ev_cmp_t (t := 130) zo_188_120 rfl (zcm_eq c9) ?_
        exact G_X7_watch_130 kl_67 (F_X7_watch_79 kl_67 n) hkl_67 ih hd l1 l3 l4 l5 l6 J r h (lv2) hlv2 (lv7) hlv7
      rw [if_neg c9] at h
      refine ev_cmp_f (t := 130) zo_188_120 rfl (zcm_neq c9) rfl ?_
      refine ev_iload zo_188_123 rfl rfl ?_
      refine ev_iload zo_188_125 rfl rfl ?_
      by_cases c10 : l6 = l4
      · rw [if_pos c10] at h
        refine ev_cmp_f (t := 134) zo_188_127 rfl (zcm_nne c10) rfl ?_
        exact G_X7_watch_130 kl_67 (F_X7_watch_79 kl_67 n) hkl_67 ih hd l1 l3 l4 l5 l6 J r h (lv2) hlv2 (lv7) hlv7
      rw [if_neg c10] at h
      refine ev_cmp_t (t := 134) zo_188_127 rfl (zcm_ne c10) ?_
      exact G_X7_watch_134 kl_67 (F_X7_watch_79 kl_67 n) hkl_67 ih hd l1 l3 l4 l5 l6 J r h (lv2) hlv2 (lv7) hlv7
    rw [if_neg c3] at h
    refine ev_cmp_t (t := 156) zo_188_85 rfl (zcm_ge c3) ?_
    refine ev_iinc (v := 1) zo_188_156 rfl (by decide) (zz_set rfl (by decide) (Nat.le_of_ble_eq_true rfl)) rfl ?_
    show zzEv _ _ _ [.ref 46, .int l1, lv2, .int l3, .int l4, .int (l5 + 1), .int l6, lv7] _ _ _
    refine ev_goto (t := 67) zo_188_159 rfl ?_
    exact hkl_67 l1 l3 l4 (l5 + 1) J r h (lv2) hlv2 (.int l6) rfl (lv7) hlv7
def F_X7_watch_67 : Nat → Int32 → Int32 → Int32 → Int32 → zzJ → Option (Int32 × zzJ)
  | 0, _, _, _, _, _ => none
  | n + 1, l1, l3, l4, l5, J => (if l5 < (J.2 46 14) then F_X7_watch_79 (F_X7_watch_67 n) 4096 l1 l3 l4 l5 (0 : Int32) J else (if l1 = (0 : Int32) then some ((J.2 46 35), J) else some ((J.2 46 36), J)))
set_option maxRecDepth 100000 in
set_option maxHeartbeats 2000000 in
theorem G_X7_watch_67 {d : Nat} (hd : 96 ≤ d) : ∀ (n : Nat) (l1 : Int32) (l3 : Int32) (l4 : Int32) (l5 : Int32) (J : zzJ) (r : Int32 × zzJ), F_X7_watch_67 n l1 l3 l4 l5 J = some r → ∀ (lv2 : Value) (hlv2 : lv2.category = 1), ∀ (lv6 : Value) (hlv6 : lv6.category = 1), ∀ (lv7 : Value) (hlv7 : lv7.category = 1), zzEv d 188 67 [.ref 46, .int l1, lv2, .int l3, .int l4, .int l5, lv6, lv7] [] (zK J) (some (.int r.1), zK r.2) := by
  intro n
  induction n with
  | zero => intro l1 l3 l4 l5 J r h; simp [F_X7_watch_67] at h
  | succ n ih =>
    intro l1 l3 l4 l5 J r h lv2 hlv2 lv6 hlv6 lv7 hlv7
    rw [F_X7_watch_67] at h
    refine ev_iload zo_188_67 rfl rfl ?_
    refine ev_aload_n zo_188_69 rfl rfl rfl rfl ?_
    refine ev_getI zo_188_70 zf_188_85 (by decide) (Or.inl rfl) rfl rfl ?_
    by_cases c11 : l5 < (J.2 46 14)
    · rw [if_pos c11] at h
      refine ev_cmp_f (t := 162) zo_188_73 rfl (zcm_nge c11) rfl ?_
      refine ev_iconst (x := 0) zo_188_76 (by decide) rfl ?_
      refine ev_istore zo_188_77 (zz_set rfl (by decide) (Nat.le_of_ble_eq_true rfl)) rfl ?_
      show zzEv _ _ _ [.ref 46, .int l1, lv2, .int l3, .int l4, .int l5, .int (0 : Int32), lv7] _ _ _
      exact G_X7_watch_79 (F_X7_watch_67 n) ih hd 4096 l1 l3 l4 l5 (0 : Int32) J r h (lv2) hlv2 (lv7) hlv7
    rw [if_neg c11] at h
    refine ev_cmp_t (t := 162) zo_188_73 rfl (zcm_ge c11) ?_
    refine ev_iload_n zo_188_162 rfl rfl rfl ?_
    by_cases c12 : l1 = (0 : Int32)
    · rw [if_pos c12] at h
      refine ev_if_f (t := 173) zo_188_163 rfl (zcm_nne c12) rfl ?_
      refine ev_aload_n zo_188_166 rfl rfl rfl rfl ?_
      refine ev_getI zo_188_167 zf_188_304 (by decide) (Or.inl rfl) rfl rfl ?_
      refine ev_goto (t := 177) zo_188_170 rfl ?_
      obtain rfl := Option.some.inj h
      exact ev_retI zo_188_177 zr_188
    rw [if_neg c12] at h
    refine ev_if_t (t := 173) zo_188_163 rfl (zcm_ne c12) ?_
    refine ev_aload_n zo_188_173 rfl rfl rfl rfl ?_
    refine ev_getI zo_188_174 zf_188_307 (by decide) (Or.inl rfl) rfl rfl ?_
    obtain rfl := Option.some.inj h
    exact ev_retI zo_188_177 zr_188
def F_X7_watch_46 (l1 : Int32) (l2 : Int32) (t0 : Int32) (J : zzJ) : Option (Int32 × zzJ) := (if l2 = (-1 : Int32) then F_X7_watch_67 4096 l1 t0 (-1 : Int32) (0 : Int32) J else (Option.bind (F_X7_neighbour l2 (1 : Int32) J) fun q14 => F_X7_watch_67 4096 l1 t0 q14.1 (0 : Int32) q14.2))
set_option maxRecDepth 100000 in
set_option maxHeartbeats 2000000 in
theorem G_X7_watch_46 {d : Nat} (hd : 96 ≤ d) : ∀ (l1 : Int32) (l2 : Int32) (t0 : Int32) (J : zzJ) (r : Int32 × zzJ), F_X7_watch_46 l1 l2 t0 J = some r → zzEv d 188 46 [.ref 46, .int l1, .int l2, zzU, zzU, zzU, zzU, zzU] [.int t0] (zK J) (some (.int r.1), zK r.2) := by
  intro l1 l2 t0 J r h
  unfold F_X7_watch_46 at h
  refine ev_istore_n zo_188_46 rfl (zz_set rfl (by decide) (Nat.le_of_ble_eq_true rfl)) rfl ?_
  show zzEv _ _ _ [.ref 46, .int l1, .int l2, .int t0, zzU, zzU, zzU, zzU] _ _ _
  refine ev_iload_n zo_188_47 rfl rfl rfl ?_
  refine ev_iconst (x := (-1)) zo_188_48 (by decide) rfl ?_
  by_cases c13 : l2 = (-1 : Int32)
  · rw [if_pos c13] at h
    refine ev_cmp_f (t := 56) zo_188_49 rfl (zcm_nne c13) rfl ?_
    refine ev_iconst (x := (-1)) zo_188_52 (by decide) rfl ?_
    refine ev_goto (t := 62) zo_188_53 rfl ?_
    refine ev_istore zo_188_62 (zz_set rfl (by decide) (Nat.le_of_ble_eq_true rfl)) rfl ?_
    show zzEv _ _ _ [.ref 46, .int l1, .int l2, .int t0, .int (-1 : Int32), zzU, zzU, zzU] _ _ _
    refine ev_iconst (x := 0) zo_188_64 (by decide) rfl ?_
    refine ev_istore zo_188_65 (zz_set rfl (by decide) (Nat.le_of_ble_eq_true rfl)) rfl ?_
    show zzEv _ _ _ [.ref 46, .int l1, .int l2, .int t0, .int (-1 : Int32), .int (0 : Int32), zzU, zzU] _ _ _
    exact G_X7_watch_67 hd 4096 l1 t0 (-1 : Int32) (0 : Int32) J r h (.int l2) rfl (zzU) rfl (zzU) rfl
  rw [if_neg c13] at h
  refine ev_cmp_t (t := 56) zo_188_49 rfl (zcm_ne c13) ?_
  refine ev_aload_n zo_188_56 rfl rfl rfl rfl ?_
  refine ev_iload_n zo_188_57 rfl rfl rfl ?_
  refine ev_iconst (x := 1) zo_188_58 (by decide) rfl ?_
  obtain ⟨q14, hq14, h⟩ := zz_bd h
  refine ev_cV (as := [.int (1 : Int32), .int l2]) (lsn := [.ref 46, .int l2, .int (1 : Int32), zzU, zzU, zzU]) (by omega) zo_188_59 zl_188_265 (by rw [zm_169]; rfl) (by rw [zm_169]; exact rfl) (by rw [zm_169]; decide) (by unfold zzIn; rw [zm_169]; rfl) (by rw [zm_169]; exact Nat.le_of_ble_eq_true rfl) (Nat.le_of_ble_eq_true rfl) (G_X7_neighbour (by omega) l2 (1 : Int32) J q14 hq14) rfl ?_
  show zzEv _ _ _ _ [.int q14.1] _ _
  refine ev_istore zo_188_62 (zz_set rfl (by decide) (Nat.le_of_ble_eq_true rfl)) rfl ?_
  show zzEv _ _ _ [.ref 46, .int l1, .int l2, .int t0, .int q14.1, zzU, zzU, zzU] _ _ _
  refine ev_iconst (x := 0) zo_188_64 (by decide) rfl ?_
  refine ev_istore zo_188_65 (zz_set rfl (by decide) (Nat.le_of_ble_eq_true rfl)) rfl ?_
  show zzEv _ _ _ [.ref 46, .int l1, .int l2, .int t0, .int q14.1, .int (0 : Int32), zzU, zzU] _ _ _
  exact G_X7_watch_67 hd 4096 l1 t0 q14.1 (0 : Int32) q14.2 r h (.int l2) rfl (zzU) rfl (zzU) rfl
def F_X7_watch (x1 : Int32) (J : zzJ) : Option (Int32 × zzJ) := (Option.bind (F_X7_in x1.toInt64 (0 : Int64) (1 : Int64) J) fun q15 => (if q15.1 = (0 : Int32) then some ((-2 : Int32), q15.2) else (Option.bind (F_X7_din (wI q15.2 46 35 (-1 : Int32))) fun q17 => (Option.bind (F_X7_firstTeacher (wI q17.2 46 36 q17.1)) fun q18 => (if q18.1 = (-1 : Int32) then F_X7_watch_46 x1 q18.1 (-1 : Int32) q18.2 else (Option.bind (F_X7_neighbour q18.1 (-1 : Int32) q18.2) fun q20 => F_X7_watch_46 x1 q18.1 q20.1 q20.2))))))
set_option maxRecDepth 100000 in
set_option maxHeartbeats 2000000 in
theorem G_X7_watch {d : Nat} (hd : 96 ≤ d) (x1 : Int32) (J : zzJ) (r : Int32 × zzJ) (h : F_X7_watch x1 J = some r) : zzEv d 188 0 [.ref 46, .int x1, zzU, zzU, zzU, zzU, zzU, zzU] [] (zK J) (some (.int r.1), zK r.2) := by
  unfold F_X7_watch at h
  refine ev_iload_n zo_188_0 rfl rfl rfl ?_
  refine ev_i2l zo_188_1 rfl ?_
  refine ev_lconst (x := 0) zo_188_2 (by decide) rfl ?_
  refine ev_lconst (x := 1) zo_188_3 (by decide) rfl ?_
  obtain ⟨q15, hq15, h⟩ := zz_bd h
  refine ev_cS (as := [.long (1 : Int64), .long (0 : Int64), .long x1.toInt64]) (lsn := [.long x1.toInt64, zzU, .long (0 : Int64), zzU, .long (1 : Int64), zzU]) (by omega) zo_188_4 zl_188_88 (by decide) (by rw [zm_136]; rfl) (by unfold zzIn; rw [zm_136]; rfl) (by rw [zm_136]; exact Nat.le_of_ble_eq_true rfl) (Nat.le_of_ble_eq_true rfl) (G_X7_in (by omega) x1.toInt64 (0 : Int64) (1 : Int64) J q15 hq15) rfl ?_
  show zzEv _ _ _ _ [.int q15.1] _ _
  by_cases c16 : q15.1 = (0 : Int32)
  · rw [if_pos c16] at h
    refine ev_if_f (t := 13) zo_188_7 rfl (zcm_nne c16) rfl ?_
    refine ev_bipush (x := (-2)) zo_188_10 (by decide) rfl ?_
    obtain rfl := Option.some.inj h
    exact ev_retI zo_188_12 zr_188
  rw [if_neg c16] at h
  refine ev_if_t (t := 13) zo_188_7 rfl (zcm_ne c16) ?_
  refine ev_aload_n zo_188_13 rfl rfl rfl rfl ?_
  refine ev_iconst (x := (-1)) zo_188_14 (by decide) rfl ?_
  refine ev_putI zo_188_15 zf_188_304 (by decide) rfl rfl rfl rfl ?_
  refine ev_aload_n zo_188_18 rfl rfl rfl rfl ?_
  refine ev_aload_n zo_188_19 rfl rfl rfl rfl ?_
  obtain ⟨q17, hq17, h⟩ := zz_bd h
  refine ev_cV (as := []) (lsn := [.ref 46, zzU, zzU]) (by omega) zo_188_20 zl_188_287 (by rw [zm_178]; rfl) (by rw [zm_178]; exact rfl) (by rw [zm_178]; decide) (by unfold zzIn; rw [zm_178]; rfl) (by rw [zm_178]; exact Nat.le_of_ble_eq_true rfl) (Nat.le_of_ble_eq_true rfl) (G_X7_din (by omega) (wI q15.2 46 35 (-1 : Int32)) q17 hq17) rfl ?_
  show zzEv _ _ _ _ [.int q17.1, .ref 46] _ _
  refine ev_putI zo_188_23 zf_188_307 (by decide) rfl rfl rfl rfl ?_
  refine ev_aload_n zo_188_26 rfl rfl rfl rfl ?_
  obtain ⟨q18, hq18, h⟩ := zz_bd h
  refine ev_cV (as := []) (lsn := [.ref 46, zzU]) (by omega) zo_188_27 zl_188_316 (by rw [zm_187]; rfl) (by rw [zm_187]; exact rfl) (by rw [zm_187]; decide) (by unfold zzIn; rw [zm_187]; rfl) (by rw [zm_187]; exact Nat.le_of_ble_eq_true rfl) (Nat.le_of_ble_eq_true rfl) (G_X7_firstTeacher (by omega) (wI q17.2 46 36 q17.1) q18 hq18) rfl ?_
  show zzEv _ _ _ _ [.int q18.1] _ _
  refine ev_istore_n zo_188_30 rfl (zz_set rfl (by decide) (Nat.le_of_ble_eq_true rfl)) rfl ?_
  show zzEv _ _ _ [.ref 46, .int x1, .int q18.1, zzU, zzU, zzU, zzU, zzU] _ _ _
  refine ev_iload_n zo_188_31 rfl rfl rfl ?_
  refine ev_iconst (x := (-1)) zo_188_32 (by decide) rfl ?_
  by_cases c19 : q18.1 = (-1 : Int32)
  · rw [if_pos c19] at h
    refine ev_cmp_f (t := 40) zo_188_33 rfl (zcm_nne c19) rfl ?_
    refine ev_iconst (x := (-1)) zo_188_36 (by decide) rfl ?_
    refine ev_goto (t := 46) zo_188_37 rfl ?_
    exact G_X7_watch_46 hd x1 q18.1 (-1 : Int32) q18.2 r h
  rw [if_neg c19] at h
  refine ev_cmp_t (t := 40) zo_188_33 rfl (zcm_ne c19) ?_
  refine ev_aload_n zo_188_40 rfl rfl rfl rfl ?_
  refine ev_iload_n zo_188_41 rfl rfl rfl ?_
  refine ev_iconst (x := (-1)) zo_188_42 (by decide) rfl ?_
  obtain ⟨q20, hq20, h⟩ := zz_bd h
  refine ev_cV (as := [.int (-1 : Int32), .int q18.1]) (lsn := [.ref 46, .int q18.1, .int (-1 : Int32), zzU, zzU, zzU]) (by omega) zo_188_43 zl_188_265 (by rw [zm_169]; rfl) (by rw [zm_169]; exact rfl) (by rw [zm_169]; decide) (by unfold zzIn; rw [zm_169]; rfl) (by rw [zm_169]; exact Nat.le_of_ble_eq_true rfl) (Nat.le_of_ble_eq_true rfl) (G_X7_neighbour (by omega) q18.1 (-1 : Int32) q18.2 q20 hq20) rfl ?_
  show zzEv _ _ _ _ [.int q20.1] _ _
  exact G_X7_watch_46 hd x1 q18.1 q20.1 q20.2 r h
/-! X7_isHat -/
def F_X7_isHat_181 (kl_111 : Int32 → Int32 → Int32 → Int32 → zzJ → Option (Int32 × zzJ)) (l1 : Int32) (l2 : Int32) (l3 : Int32) (l4 : Int32) (l5 : Int32) (J : zzJ) : Option (Int32 × zzJ) := kl_111 l1 l2 (l3 ||| ((1 : Int32) <<< (l5 &&& 31))) (l4 + 1) J
set_option maxRecDepth 100000 in
set_option maxHeartbeats 2000000 in
theorem G_X7_isHat_181 {d : Nat} (kl_111 : Int32 → Int32 → Int32 → Int32 → zzJ → Option (Int32 × zzJ)) (hkl_111 : ∀ (l1 : Int32) (l2 : Int32) (l3 : Int32) (l4 : Int32) (J : zzJ) (r : Int32 × zzJ), kl_111 l1 l2 l3 l4 J = some r → ∀ (lv5 : Value) (hlv5 : lv5.category = 1), zzEv d 189 111 [.ref 46, .int l1, .int l2, .int l3, .int l4, lv5] [] (zK J) (some (.int r.1), zK r.2)) (hd : 2 ≤ d) : ∀ (l1 : Int32) (l2 : Int32) (l3 : Int32) (l4 : Int32) (l5 : Int32) (J : zzJ) (r : Int32 × zzJ), F_X7_isHat_181 kl_111 l1 l2 l3 l4 l5 J = some r → zzEv d 189 181 [.ref 46, .int l1, .int l2, .int l3, .int l4, .int l5] [] (zK J) (some (.int r.1), zK r.2) := by
  intro l1 l2 l3 l4 l5 J r h
  unfold F_X7_isHat_181 at h
  refine ev_iload_n zo_189_181 rfl rfl rfl ?_
  refine ev_iconst (x := 1) zo_189_182 (by decide) rfl ?_
  refine ev_iload zo_189_183 rfl rfl ?_
  refine ev_ishl zo_189_185 rfl ?_
  refine ev_ior zo_189_186 rfl ?_
  refine ev_istore_n zo_189_187 rfl (zz_set rfl (by decide) (Nat.le_of_ble_eq_true rfl)) rfl ?_
  show zzEv _ _ _ [.ref 46, .int l1, .int l2, .int (l3 ||| ((1 : Int32) <<< (l5 &&& 31))), .int l4, .int l5] _ _ _
  refine ev_iinc (v := 1) zo_189_188 rfl (by decide) (zz_set rfl (by decide) (Nat.le_of_ble_eq_true rfl)) rfl ?_
  show zzEv _ _ _ [.ref 46, .int l1, .int l2, .int (l3 ||| ((1 : Int32) <<< (l5 &&& 31))), .int (l4 + 1), .int l5] _ _ _
  refine ev_goto (t := 111) zo_189_191 rfl ?_
  exact hkl_111 l1 l2 (l3 ||| ((1 : Int32) <<< (l5 &&& 31))) (l4 + 1) J r h (.int l5) rfl
def F_X7_isHat_111 : Nat → Int32 → Int32 → Int32 → Int32 → zzJ → Option (Int32 × zzJ)
  | 0, _, _, _, _, _ => none
  | n + 1, l1, l2, l3, l4, J => (if l4 < ((2 : Int32) * (J.2 46 37)) then (if zzIx (((40 : Int32) * l1) + l4) 160 then (Option.bind (F_X7_isSeat (J.2 65 (((40 : Int32) * l1) + l4).toNatClampNeg) J) fun q3 => (if q3.1 = (0 : Int32) then some ((0 : Int32), q3.2) else (if ((l3 >>> ((J.2 65 (((40 : Int32) * l1) + l4).toNatClampNeg) &&& 31)) &&& (1 : Int32)) = (1 : Int32) then some ((0 : Int32), q3.2) else (if zzIx (J.2 65 (((40 : Int32) * l1) + l4).toNatClampNeg) 24 then (if (q3.2.2 54 (J.2 65 (((40 : Int32) * l1) + l4).toNatClampNeg).toNatClampNeg) = (-1 : Int32) then F_X7_isHat_181 (F_X7_isHat_111 n) l1 l2 l3 l4 (J.2 65 (((40 : Int32) * l1) + l4).toNatClampNeg) q3.2 else (if zzIx (J.2 65 (((40 : Int32) * l1) + l4).toNatClampNeg) 24 then (if ((l2 >>> ((q3.2.2 54 (J.2 65 (((40 : Int32) * l1) + l4).toNatClampNeg).toNatClampNeg) &&& 31)) &&& (1 : Int32)) = (0 : Int32) then some ((0 : Int32), q3.2) else F_X7_isHat_181 (F_X7_isHat_111 n) l1 l2 l3 l4 (J.2 65 (((40 : Int32) * l1) + l4).toNatClampNeg) q3.2) else none)) else none)))) else none) else some ((1 : Int32), J))
set_option maxRecDepth 100000 in
set_option maxHeartbeats 2000000 in
theorem G_X7_isHat_111 {d : Nat} (hd : 2 ≤ d) : ∀ (n : Nat) (l1 : Int32) (l2 : Int32) (l3 : Int32) (l4 : Int32) (J : zzJ) (r : Int32 × zzJ), F_X7_isHat_111 n l1 l2 l3 l4 J = some r → ∀ (lv5 : Value) (hlv5 : lv5.category = 1), zzEv d 189 111 [.ref 46, .int l1, .int l2, .int l3, .int l4, lv5] [] (zK J) (some (.int r.1), zK r.2) := by
  intro n
  induction n with
  | zero => intro l1 l2 l3 l4 J r h; simp [F_X7_isHat_111] at h
  | succ n ih =>
    intro l1 l2 l3 l4 J r h lv5 hlv5
    rw [F_X7_isHat_111] at h
    refine ev_iload zo_189_111 rfl rfl ?_
    refine ev_iconst (x := 2) zo_189_113 (by decide) rfl ?_
    refine ev_aload_n zo_189_114 rfl rfl rfl rfl ?_
    refine ev_getI zo_189_115 zf_189_321 (by decide) (Or.inl rfl) rfl rfl ?_
    refine ev_imul zo_189_118 rfl ?_
    by_cases c1 : l4 < ((2 : Int32) * (J.2 46 37))
    · rw [if_pos c1] at h
      refine ev_cmp_f (t := 194) zo_189_119 rfl (zcm_nge c1) rfl ?_
      refine ev_aload_n zo_189_122 rfl rfl rfl rfl ?_
      refine ev_getR zo_189_123 zf_189_75 (by decide) rfl rfl rfl rfl ?_
      refine ev_bipush (x := 40) zo_189_126 (by decide) rfl ?_
      refine ev_iload_n zo_189_128 rfl rfl rfl ?_
      refine ev_imul zo_189_129 rfl ?_
      refine ev_iload zo_189_130 rfl rfl ?_
      refine ev_iadd zo_189_132 rfl ?_
      obtain ⟨c2, h⟩ := zz_chk h
      refine ev_iald zo_189_133 rfl c2 rfl ?_
      refine ev_istore zo_189_134 (zz_set rfl (by decide) (Nat.le_of_ble_eq_true rfl)) rfl ?_
      show zzEv _ _ _ [.ref 46, .int l1, .int l2, .int l3, .int l4, .int (J.2 65 (((40 : Int32) * l1) + l4).toNatClampNeg)] _ _ _
      refine ev_iload zo_189_136 rfl rfl ?_
      obtain ⟨q3, hq3, h⟩ := zz_bd h
      refine ev_cS (as := [.int (J.2 65 (((40 : Int32) * l1) + l4).toNatClampNeg)]) (lsn := [.int (J.2 65 (((40 : Int32) * l1) + l4).toNatClampNeg)]) (by omega) zo_189_138 zl_189_126 (by decide) (by rw [zm_141]; rfl) (by unfold zzIn; rw [zm_141]; rfl) (by rw [zm_141]; exact Nat.le_of_ble_eq_true rfl) (Nat.le_of_ble_eq_true rfl) (G_X7_isSeat (by omega) (J.2 65 (((40 : Int32) * l1) + l4).toNatClampNeg) J q3 hq3) rfl ?_
      show zzEv _ _ _ _ [.int q3.1] _ _
      by_cases c4 : q3.1 = (0 : Int32)
      · rw [if_pos c4] at h
        refine ev_if_t (t := 179) zo_189_141 rfl (zcm_eq c4) ?_
        refine ev_iconst (x := 0) zo_189_179 (by decide) rfl ?_
        obtain rfl := Option.some.inj h
        exact ev_retZ zo_189_180 zr_189 (Or.inl rfl)
      rw [if_neg c4] at h
      refine ev_if_f (t := 179) zo_189_141 rfl (zcm_neq c4) rfl ?_
      refine ev_iload_n zo_189_144 rfl rfl rfl ?_
      refine ev_iload zo_189_145 rfl rfl ?_
      refine ev_ishr zo_189_147 rfl ?_
      refine ev_iconst (x := 1) zo_189_148 (by decide) rfl ?_
      refine ev_iand zo_189_149 rfl ?_
      refine ev_iconst (x := 1) zo_189_150 (by decide) rfl ?_
      by_cases c5 : ((l3 >>> ((J.2 65 (((40 : Int32) * l1) + l4).toNatClampNeg) &&& 31)) &&& (1 : Int32)) = (1 : Int32)
      · rw [if_pos c5] at h
        refine ev_cmp_t (t := 179) zo_189_151 rfl (zcm_eq c5) ?_
        refine ev_iconst (x := 0) zo_189_179 (by decide) rfl ?_
        obtain rfl := Option.some.inj h
        exact ev_retZ zo_189_180 zr_189 (Or.inl rfl)
      rw [if_neg c5] at h
      refine ev_cmp_f (t := 179) zo_189_151 rfl (zcm_neq c5) rfl ?_
      refine ev_aload_n zo_189_154 rfl rfl rfl rfl ?_
      refine ev_getR zo_189_155 zf_189_38 (by decide) rfl rfl rfl rfl ?_
      refine ev_iload zo_189_158 rfl rfl ?_
      obtain ⟨c6, h⟩ := zz_chk h
      refine ev_iald zo_189_160 rfl c6 rfl ?_
      refine ev_iconst (x := (-1)) zo_189_161 (by decide) rfl ?_
      by_cases c7 : (q3.2.2 54 (J.2 65 (((40 : Int32) * l1) + l4).toNatClampNeg).toNatClampNeg) = (-1 : Int32)
      · rw [if_pos c7] at h
        refine ev_cmp_t (t := 181) zo_189_162 rfl (zcm_eq c7) ?_
        exact G_X7_isHat_181 (F_X7_isHat_111 n) ih hd l1 l2 l3 l4 (J.2 65 (((40 : Int32) * l1) + l4).toNatClampNeg) q3.2 r h
      rw [if_neg c7] at h
      refine ev_cmp_f (t := 181) zo_189_162 rfl (zcm_neq c7) rfl ?_
      refine ev_iload_n zo_189_165 rfl rfl rfl ?_
      refine ev_aload_n zo_189_166 rfl rfl rfl rfl ?_
      refine ev_getR zo_189_167 zf_189_38 (by decide) rfl rfl rfl rfl ?_
      refine ev_iload zo_189_170 rfl rfl ?_
      obtain ⟨c8, h⟩ := zz_chk h
      refine ev_iald zo_189_172 rfl c8 rfl ?_
      refine ev_ishr zo_189_173 rfl ?_
      refine ev_iconst (x := 1) zo_189_174 (by decide) rfl ?_
      refine ev_iand zo_189_175 rfl ?_
      by_cases c9 : ((l2 >>> ((q3.2.2 54 (J.2 65 (((40 : Int32) * l1) + l4).toNatClampNeg).toNatClampNeg) &&& 31)) &&& (1 : Int32)) = (0 : Int32)
      · rw [if_pos c9] at h
        refine ev_if_f (t := 181) zo_189_176 rfl (zcm_nne c9) rfl ?_
        refine ev_iconst (x := 0) zo_189_179 (by decide) rfl ?_
        obtain rfl := Option.some.inj h
        exact ev_retZ zo_189_180 zr_189 (Or.inl rfl)
      rw [if_neg c9] at h
      refine ev_if_t (t := 181) zo_189_176 rfl (zcm_ne c9) ?_
      exact G_X7_isHat_181 (F_X7_isHat_111 n) ih hd l1 l2 l3 l4 (J.2 65 (((40 : Int32) * l1) + l4).toNatClampNeg) q3.2 r h
    rw [if_neg c1] at h
    refine ev_cmp_t (t := 194) zo_189_119 rfl (zcm_ge c1) ?_
    refine ev_iconst (x := 1) zo_189_194 (by decide) rfl ?_
    obtain rfl := Option.some.inj h
    exact ev_retZ zo_189_195 zr_189 (Or.inr rfl)
def F_X7_isHat_48 : Nat → Int32 → Int32 → Int32 → zzJ → Option (Int32 × zzJ)
  | 0, _, _, _, _ => none
  | n + 1, l1, l2, l3, J => (if l3 < (J.2 46 37) then (if zzIx (((40 : Int32) * l1) + l3) 160 then (Option.bind (F_X7_isOne (J.2 65 (((40 : Int32) * l1) + l3).toNatClampNeg) J) fun q12 => (if q12.1 = (0 : Int32) then some ((0 : Int32), q12.2) else (if ((l2 >>> ((J.2 65 (((40 : Int32) * l1) + l3).toNatClampNeg) &&& 31)) &&& (1 : Int32)) = (1 : Int32) then some ((0 : Int32), q12.2) else F_X7_isHat_48 n l1 (l2 ||| ((1 : Int32) <<< ((J.2 65 (((40 : Int32) * l1) + l3).toNatClampNeg) &&& 31))) (l3 + 1) q12.2))) else none) else F_X7_isHat_111 4096 l1 l2 (0 : Int32) (J.2 46 37) J)
set_option maxRecDepth 100000 in
set_option maxHeartbeats 2000000 in
theorem G_X7_isHat_48 {d : Nat} (hd : 2 ≤ d) : ∀ (n : Nat) (l1 : Int32) (l2 : Int32) (l3 : Int32) (J : zzJ) (r : Int32 × zzJ), F_X7_isHat_48 n l1 l2 l3 J = some r → ∀ (lv4 : Value) (hlv4 : lv4.category = 1), zzEv d 189 48 [.ref 46, .int l1, .int l2, .int l3, lv4, zzU] [] (zK J) (some (.int r.1), zK r.2) := by
  intro n
  induction n with
  | zero => intro l1 l2 l3 J r h; simp [F_X7_isHat_48] at h
  | succ n ih =>
    intro l1 l2 l3 J r h lv4 hlv4
    rw [F_X7_isHat_48] at h
    refine ev_iload_n zo_189_48 rfl rfl rfl ?_
    refine ev_aload_n zo_189_49 rfl rfl rfl rfl ?_
    refine ev_getI zo_189_50 zf_189_321 (by decide) (Or.inl rfl) rfl rfl ?_
    by_cases c10 : l3 < (J.2 46 37)
    · rw [if_pos c10] at h
      refine ev_cmp_f (t := 103) zo_189_53 rfl (zcm_nge c10) rfl ?_
      refine ev_aload_n zo_189_56 rfl rfl rfl rfl ?_
      refine ev_getR zo_189_57 zf_189_75 (by decide) rfl rfl rfl rfl ?_
      refine ev_bipush (x := 40) zo_189_60 (by decide) rfl ?_
      refine ev_iload_n zo_189_62 rfl rfl rfl ?_
      refine ev_imul zo_189_63 rfl ?_
      refine ev_iload_n zo_189_64 rfl rfl rfl ?_
      refine ev_iadd zo_189_65 rfl ?_
      obtain ⟨c11, h⟩ := zz_chk h
      refine ev_iald zo_189_66 rfl c11 rfl ?_
      refine ev_istore zo_189_67 (zz_set rfl (by decide) (Nat.le_of_ble_eq_true rfl)) rfl ?_
      show zzEv _ _ _ [.ref 46, .int l1, .int l2, .int l3, .int (J.2 65 (((40 : Int32) * l1) + l3).toNatClampNeg), zzU] _ _ _
      refine ev_aload_n zo_189_69 rfl rfl rfl rfl ?_
      refine ev_iload zo_189_70 rfl rfl ?_
      obtain ⟨q12, hq12, h⟩ := zz_bd h
      refine ev_cV (as := [.int (J.2 65 (((40 : Int32) * l1) + l3).toNatClampNeg)]) (lsn := [.ref 46, .int (J.2 65 (((40 : Int32) * l1) + l3).toNatClampNeg)]) (by omega) zo_189_72 zl_189_94 (by rw [zm_140]; rfl) (by rw [zm_140]; exact rfl) (by rw [zm_140]; decide) (by unfold zzIn; rw [zm_140]; rfl) (by rw [zm_140]; exact Nat.le_of_ble_eq_true rfl) (Nat.le_of_ble_eq_true rfl) (G_X7_isOne (by omega) (J.2 65 (((40 : Int32) * l1) + l3).toNatClampNeg) J q12 hq12) rfl ?_
      show zzEv _ _ _ _ [.int q12.1] _ _
      by_cases c13 : q12.1 = (0 : Int32)
      · rw [if_pos c13] at h
        refine ev_if_t (t := 88) zo_189_75 rfl (zcm_eq c13) ?_
        refine ev_iconst (x := 0) zo_189_88 (by decide) rfl ?_
        obtain rfl := Option.some.inj h
        exact ev_retZ zo_189_89 zr_189 (Or.inl rfl)
      rw [if_neg c13] at h
      refine ev_if_f (t := 88) zo_189_75 rfl (zcm_neq c13) rfl ?_
      refine ev_iload_n zo_189_78 rfl rfl rfl ?_
      refine ev_iload zo_189_79 rfl rfl ?_
      refine ev_ishr zo_189_81 rfl ?_
      refine ev_iconst (x := 1) zo_189_82 (by decide) rfl ?_
      refine ev_iand zo_189_83 rfl ?_
      refine ev_iconst (x := 1) zo_189_84 (by decide) rfl ?_
      by_cases c14 : ((l2 >>> ((J.2 65 (((40 : Int32) * l1) + l3).toNatClampNeg) &&& 31)) &&& (1 : Int32)) = (1 : Int32)
      · rw [if_pos c14] at h
        refine ev_cmp_f (t := 90) zo_189_85 rfl (zcm_nne c14) rfl ?_
        refine ev_iconst (x := 0) zo_189_88 (by decide) rfl ?_
        obtain rfl := Option.some.inj h
        exact ev_retZ zo_189_89 zr_189 (Or.inl rfl)
      rw [if_neg c14] at h
      refine ev_cmp_t (t := 90) zo_189_85 rfl (zcm_ne c14) ?_
      refine ev_iload_n zo_189_90 rfl rfl rfl ?_
      refine ev_iconst (x := 1) zo_189_91 (by decide) rfl ?_
      refine ev_iload zo_189_92 rfl rfl ?_
      refine ev_ishl zo_189_94 rfl ?_
      refine ev_ior zo_189_95 rfl ?_
      refine ev_istore_n zo_189_96 rfl (zz_set rfl (by decide) (Nat.le_of_ble_eq_true rfl)) rfl ?_
      show zzEv _ _ _ [.ref 46, .int l1, .int (l2 ||| ((1 : Int32) <<< ((J.2 65 (((40 : Int32) * l1) + l3).toNatClampNeg) &&& 31))), .int l3, .int (J.2 65 (((40 : Int32) * l1) + l3).toNatClampNeg), zzU] _ _ _
      refine ev_iinc (v := 1) zo_189_97 rfl (by decide) (zz_set rfl (by decide) (Nat.le_of_ble_eq_true rfl)) rfl ?_
      show zzEv _ _ _ [.ref 46, .int l1, .int (l2 ||| ((1 : Int32) <<< ((J.2 65 (((40 : Int32) * l1) + l3).toNatClampNeg) &&& 31))), .int (l3 + 1), .int (J.2 65 (((40 : Int32) * l1) + l3).toNatClampNeg), zzU] _ _ _
      refine ev_goto (t := 48) zo_189_100 rfl ?_
      exact ih l1 (l2 ||| ((1 : Int32) <<< ((J.2 65 (((40 : Int32) * l1) + l3).toNatClampNeg) &&& 31))) (l3 + 1) q12.2 r h (.int (J.2 65 (((40 : Int32) * l1) + l3).toNatClampNeg)) rfl
    rw [if_neg c10] at h
    refine ev_cmp_t (t := 103) zo_189_53 rfl (zcm_ge c10) ?_
    refine ev_iconst (x := 0) zo_189_103 (by decide) rfl ?_
    refine ev_istore_n zo_189_104 rfl (zz_set rfl (by decide) (Nat.le_of_ble_eq_true rfl)) rfl ?_
    show zzEv _ _ _ [.ref 46, .int l1, .int l2, .int (0 : Int32), lv4, zzU] _ _ _
    refine ev_aload_n zo_189_105 rfl rfl rfl rfl ?_
    refine ev_getI zo_189_106 zf_189_321 (by decide) (Or.inl rfl) rfl rfl ?_
    refine ev_istore zo_189_109 (zz_set rfl (by decide) (Nat.le_of_ble_eq_true rfl)) rfl ?_
    show zzEv _ _ _ [.ref 46, .int l1, .int l2, .int (0 : Int32), .int (J.2 46 37), zzU] _ _ _
    exact G_X7_isHat_111 hd 4096 l1 l2 (0 : Int32) (J.2 46 37) J r h (zzU) rfl
def F_X7_isHat (x1 : Int32) (J : zzJ) : Option (Int32 × zzJ) := (if zzIx x1 4 then (if (zRem (J.2 64 x1.toNatClampNeg) (2 : Int32)) = (0 : Int32) then (if zzIx x1 4 then (Option.bind (F_X7_in (J.2 64 x1.toNatClampNeg).toInt64 (2 : Int64) (12 : Int64) J) fun q18 => (if q18.1 = (0 : Int32) then some ((0 : Int32), q18.2) else (if zzIx x1 4 then F_X7_isHat_48 4096 x1 (0 : Int32) (0 : Int32) (wI q18.2 46 37 ((q18.2.2 64 x1.toNatClampNeg) / (2 : Int32))) else none))) else none) else some ((0 : Int32), J)) else none)
set_option maxRecDepth 100000 in
set_option maxHeartbeats 2000000 in
theorem G_X7_isHat {d : Nat} (hd : 2 ≤ d) (x1 : Int32) (J : zzJ) (r : Int32 × zzJ) (h : F_X7_isHat x1 J = some r) : zzEv d 189 0 [.ref 46, .int x1, zzU, zzU, zzU, zzU] [] (zK J) (some (.int r.1), zK r.2) := by
  unfold F_X7_isHat at h
  refine ev_aload_n zo_189_0 rfl rfl rfl rfl ?_
  refine ev_getR zo_189_1 zf_189_72 (by decide) rfl rfl rfl rfl ?_
  refine ev_iload_n zo_189_4 rfl rfl rfl ?_
  obtain ⟨c15, h⟩ := zz_chk h
  refine ev_iald zo_189_5 rfl c15 rfl ?_
  refine ev_iconst (x := 2) zo_189_6 (by decide) rfl ?_
  refine ev_irem zo_189_7 (by decide) rfl ?_
  by_cases c16 : (zRem (J.2 64 x1.toNatClampNeg) (2 : Int32)) = (0 : Int32)
  · rw [if_pos c16] at h
    refine ev_if_f (t := 30) zo_189_8 rfl (zcm_nne c16) rfl ?_
    refine ev_aload_n zo_189_11 rfl rfl rfl rfl ?_
    refine ev_getR zo_189_12 zf_189_72 (by decide) rfl rfl rfl rfl ?_
    refine ev_iload_n zo_189_15 rfl rfl rfl ?_
    obtain ⟨c17, h⟩ := zz_chk h
    refine ev_iald zo_189_16 rfl c17 rfl ?_
    refine ev_i2l zo_189_17 rfl ?_
    refine ev_ldc2 zo_189_18 zc_189_284 rfl ?_
    refine ev_ldc2 zo_189_21 zc_189_319 rfl ?_
    obtain ⟨q18, hq18, h⟩ := zz_bd h
    refine ev_cS (as := [.long (12 : Int64), .long (2 : Int64), .long (J.2 64 x1.toNatClampNeg).toInt64]) (lsn := [.long (J.2 64 x1.toNatClampNeg).toInt64, zzU, .long (2 : Int64), zzU, .long (12 : Int64), zzU]) (by omega) zo_189_24 zl_189_88 (by decide) (by rw [zm_136]; rfl) (by unfold zzIn; rw [zm_136]; rfl) (by rw [zm_136]; exact Nat.le_of_ble_eq_true rfl) (Nat.le_of_ble_eq_true rfl) (G_X7_in (by omega) (J.2 64 x1.toNatClampNeg).toInt64 (2 : Int64) (12 : Int64) J q18 hq18) rfl ?_
    show zzEv _ _ _ _ [.int q18.1] _ _
    by_cases c19 : q18.1 = (0 : Int32)
    · rw [if_pos c19] at h
      refine ev_if_f (t := 32) zo_189_27 rfl (zcm_nne c19) rfl ?_
      refine ev_iconst (x := 0) zo_189_30 (by decide) rfl ?_
      obtain rfl := Option.some.inj h
      exact ev_retZ zo_189_31 zr_189 (Or.inl rfl)
    rw [if_neg c19] at h
    refine ev_if_t (t := 32) zo_189_27 rfl (zcm_ne c19) ?_
    refine ev_aload_n zo_189_32 rfl rfl rfl rfl ?_
    refine ev_aload_n zo_189_33 rfl rfl rfl rfl ?_
    refine ev_getR zo_189_34 zf_189_72 (by decide) rfl rfl rfl rfl ?_
    refine ev_iload_n zo_189_37 rfl rfl rfl ?_
    obtain ⟨c20, h⟩ := zz_chk h
    refine ev_iald zo_189_38 rfl c20 rfl ?_
    refine ev_iconst (x := 2) zo_189_39 (by decide) rfl ?_
    refine ev_idiv zo_189_40 (by decide) rfl ?_
    refine ev_putI zo_189_41 zf_189_321 (by decide) rfl rfl rfl rfl ?_
    refine ev_iconst (x := 0) zo_189_44 (by decide) rfl ?_
    refine ev_istore_n zo_189_45 rfl (zz_set rfl (by decide) (Nat.le_of_ble_eq_true rfl)) rfl ?_
    show zzEv _ _ _ [.ref 46, .int x1, .int (0 : Int32), zzU, zzU, zzU] _ _ _
    refine ev_iconst (x := 0) zo_189_46 (by decide) rfl ?_
    refine ev_istore_n zo_189_47 rfl (zz_set rfl (by decide) (Nat.le_of_ble_eq_true rfl)) rfl ?_
    show zzEv _ _ _ [.ref 46, .int x1, .int (0 : Int32), .int (0 : Int32), zzU, zzU] _ _ _
    exact G_X7_isHat_48 hd 4096 x1 (0 : Int32) (0 : Int32) (wI q18.2 46 37 ((q18.2.2 64 x1.toNatClampNeg) / (2 : Int32))) r h (zzU) rfl
  rw [if_neg c16] at h
  refine ev_if_t (t := 30) zo_189_8 rfl (zcm_ne c16) ?_
  refine ev_iconst (x := 0) zo_189_30 (by decide) rfl ?_
  obtain rfl := Option.some.inj h
  exact ev_retZ zo_189_31 zr_189 (Or.inl rfl)
/-! X7_seeks -/
def F_X7_seeks_46 (k_X7_seeks : Int32 → Int32 → Int32 → Int32 → zzJ → Option (zzJ)) : Nat → Int32 → Int32 → Int32 → Int32 → Int32 → zzJ → Option (zzJ)
  | 0, _, _, _, _, _, _ => none
  | n + 1, l1, l2, l3, l4, l5, J => (if l5 < (J.2 46 37) then (if ((l3 >>> (l5 &&& 31)) &&& (1 : Int32)) = (0 : Int32) then (if zzIx (((40 : Int32) * l1) + l5) 160 then (if zzIx ((((40 : Int32) * l1) + (J.2 46 37)) + l2) 160 then (Option.bind (F_X7_seats (J.2 65 (((40 : Int32) * l1) + l5).toNatClampNeg) (J.2 65 ((((40 : Int32) * l1) + (J.2 46 37)) + l2).toNatClampNeg) J) fun q5 => (Option.bind (k_X7_seeks l1 (l2 + (1 : Int32)) (l3 ||| ((1 : Int32) <<< (l5 &&& 31))) ((((10 : Int32) * l4) + l5) + (1 : Int32)) q5) fun q6 => (Option.bind (F_X7_seats (J.2 65 (((40 : Int32) * l1) + l5).toNatClampNeg) (-1 : Int32) q6) fun q7 => F_X7_seeks_46 k_X7_seeks n l1 l2 l3 l4 (l5 + 1) q7))) else none) else none) else F_X7_seeks_46 k_X7_seeks n l1 l2 l3 l4 (l5 + 1) J) else some J)
set_option maxRecDepth 100000 in
set_option maxHeartbeats 2000000 in
theorem G_X7_seeks_46 {D d : Nat} (k_X7_seeks : Int32 → Int32 → Int32 → Int32 → zzJ → Option (zzJ)) (hk_X7_seeks : ∀ dd, D ≤ dd → ∀ (x1 : Int32) (x2 : Int32) (x3 : Int32) (x4 : Int32) (J : zzJ) (q : zzJ), k_X7_seeks x1 x2 x3 x4 J = some q → zzEv dd 190 0 [.ref 46, .int x1, .int x2, .int x3, .int x4, zzU, zzU] [] (zK J) (none, zK q)) (hd : D + 95 ≤ d) : ∀ (n : Nat) (l1 : Int32) (l2 : Int32) (l3 : Int32) (l4 : Int32) (l5 : Int32) (J : zzJ) (r : zzJ), F_X7_seeks_46 k_X7_seeks n l1 l2 l3 l4 l5 J = some r → ∀ (lv6 : Value) (hlv6 : lv6.category = 1), zzEv d 190 46 [.ref 46, .int l1, .int l2, .int l3, .int l4, .int l5, lv6] [] (zK J) (none, zK r) := by
  intro n
  induction n with
  | zero => intro l1 l2 l3 l4 l5 J r h; simp [F_X7_seeks_46] at h
  | succ n ih =>
    intro l1 l2 l3 l4 l5 J r h lv6 hlv6
    rw [F_X7_seeks_46] at h
    refine ev_iload zo_190_46 rfl rfl ?_
    refine ev_aload_n zo_190_48 rfl rfl rfl rfl ?_
    refine ev_getI zo_190_49 zf_190_321 (by decide) (Or.inl rfl) rfl rfl ?_
    by_cases c1 : l5 < (J.2 46 37)
    · rw [if_pos c1] at h
      refine ev_cmp_f (t := 137) zo_190_52 rfl (zcm_nge c1) rfl ?_
      refine ev_iload_n zo_190_55 rfl rfl rfl ?_
      refine ev_iload zo_190_56 rfl rfl ?_
      refine ev_ishr zo_190_58 rfl ?_
      refine ev_iconst (x := 1) zo_190_59 (by decide) rfl ?_
      refine ev_iand zo_190_60 rfl ?_
      by_cases c2 : ((l3 >>> (l5 &&& 31)) &&& (1 : Int32)) = (0 : Int32)
      · rw [if_pos c2] at h
        refine ev_if_f (t := 131) zo_190_61 rfl (zcm_nne c2) rfl ?_
        refine ev_aload_n zo_190_64 rfl rfl rfl rfl ?_
        refine ev_getR zo_190_65 zf_190_75 (by decide) rfl rfl rfl rfl ?_
        refine ev_bipush (x := 40) zo_190_68 (by decide) rfl ?_
        refine ev_iload_n zo_190_70 rfl rfl rfl ?_
        refine ev_imul zo_190_71 rfl ?_
        refine ev_iload zo_190_72 rfl rfl ?_
        refine ev_iadd zo_190_74 rfl ?_
        obtain ⟨c3, h⟩ := zz_chk h
        refine ev_iald zo_190_75 rfl c3 rfl ?_
        refine ev_istore zo_190_76 (zz_set rfl (by decide) (Nat.le_of_ble_eq_true rfl)) rfl ?_
        show zzEv _ _ _ [.ref 46, .int l1, .int l2, .int l3, .int l4, .int l5, .int (J.2 65 (((40 : Int32) * l1) + l5).toNatClampNeg)] _ _ _
        refine ev_aload_n zo_190_78 rfl rfl rfl rfl ?_
        refine ev_iload zo_190_79 rfl rfl ?_
        refine ev_aload_n zo_190_81 rfl rfl rfl rfl ?_
        refine ev_getR zo_190_82 zf_190_75 (by decide) rfl rfl rfl rfl ?_
        refine ev_bipush (x := 40) zo_190_85 (by decide) rfl ?_
        refine ev_iload_n zo_190_87 rfl rfl rfl ?_
        refine ev_imul zo_190_88 rfl ?_
        refine ev_aload_n zo_190_89 rfl rfl rfl rfl ?_
        refine ev_getI zo_190_90 zf_190_321 (by decide) (Or.inl rfl) rfl rfl ?_
        refine ev_iadd zo_190_93 rfl ?_
        refine ev_iload_n zo_190_94 rfl rfl rfl ?_
        refine ev_iadd zo_190_95 rfl ?_
        obtain ⟨c4, h⟩ := zz_chk h
        refine ev_iald zo_190_96 rfl c4 rfl ?_
        obtain ⟨q5, hq5, h⟩ := zz_bd h
        refine ev_cV (as := [.int (J.2 65 ((((40 : Int32) * l1) + (J.2 46 37)) + l2).toNatClampNeg), .int (J.2 65 (((40 : Int32) * l1) + l5).toNatClampNeg)]) (lsn := [.ref 46, .int (J.2 65 (((40 : Int32) * l1) + l5).toNatClampNeg), .int (J.2 65 ((((40 : Int32) * l1) + (J.2 46 37)) + l2).toNatClampNeg)]) (by omega) zo_190_97 zl_190_129 (by rw [zm_146]; rfl) (by rw [zm_146]; exact rfl) (by rw [zm_146]; decide) (by unfold zzIn; rw [zm_146]; rfl) (by rw [zm_146]; exact Nat.le_of_ble_eq_true rfl) (Nat.le_of_ble_eq_true rfl) (G_X7_seats (by omega) (J.2 65 (((40 : Int32) * l1) + l5).toNatClampNeg) (J.2 65 ((((40 : Int32) * l1) + (J.2 46 37)) + l2).toNatClampNeg) J q5 hq5) rfl ?_
        show zzEv _ _ _ _ [] _ _
        refine ev_aload_n zo_190_100 rfl rfl rfl rfl ?_
        refine ev_iload_n zo_190_101 rfl rfl rfl ?_
        refine ev_iload_n zo_190_102 rfl rfl rfl ?_
        refine ev_iconst (x := 1) zo_190_103 (by decide) rfl ?_
        refine ev_iadd zo_190_104 rfl ?_
        refine ev_iload_n zo_190_105 rfl rfl rfl ?_
        refine ev_iconst (x := 1) zo_190_106 (by decide) rfl ?_
        refine ev_iload zo_190_107 rfl rfl ?_
        refine ev_ishl zo_190_109 rfl ?_
        refine ev_ior zo_190_110 rfl ?_
        refine ev_bipush (x := 10) zo_190_111 (by decide) rfl ?_
        refine ev_iload zo_190_113 rfl rfl ?_
        refine ev_imul zo_190_115 rfl ?_
        refine ev_iload zo_190_116 rfl rfl ?_
        refine ev_iadd zo_190_118 rfl ?_
        refine ev_iconst (x := 1) zo_190_119 (by decide) rfl ?_
        refine ev_iadd zo_190_120 rfl ?_
        obtain ⟨q6, hq6, h⟩ := zz_bd h
        refine ev_cV (as := [.int ((((10 : Int32) * l4) + l5) + (1 : Int32)), .int (l3 ||| ((1 : Int32) <<< (l5 &&& 31))), .int (l2 + (1 : Int32)), .int l1]) (lsn := [.ref 46, .int l1, .int (l2 + (1 : Int32)), .int (l3 ||| ((1 : Int32) <<< (l5 &&& 31))), .int ((((10 : Int32) * l4) + l5) + (1 : Int32)), zzU, zzU]) (by omega) zo_190_121 zl_190_330 (by rw [zm_190]; rfl) (by rw [zm_190]; exact rfl) (by rw [zm_190]; decide) (by unfold zzIn; rw [zm_190]; rfl) (by rw [zm_190]; exact Nat.le_of_ble_eq_true rfl) (Nat.le_of_ble_eq_true rfl) (hk_X7_seeks _ (by omega) l1 (l2 + (1 : Int32)) (l3 ||| ((1 : Int32) <<< (l5 &&& 31))) ((((10 : Int32) * l4) + l5) + (1 : Int32)) q5 q6 hq6) rfl ?_
        show zzEv _ _ _ _ [] _ _
        refine ev_aload_n zo_190_124 rfl rfl rfl rfl ?_
        refine ev_iload zo_190_125 rfl rfl ?_
        refine ev_iconst (x := (-1)) zo_190_127 (by decide) rfl ?_
        obtain ⟨q7, hq7, h⟩ := zz_bd h
        refine ev_cV (as := [.int (-1 : Int32), .int (J.2 65 (((40 : Int32) * l1) + l5).toNatClampNeg)]) (lsn := [.ref 46, .int (J.2 65 (((40 : Int32) * l1) + l5).toNatClampNeg), .int (-1 : Int32)]) (by omega) zo_190_128 zl_190_129 (by rw [zm_146]; rfl) (by rw [zm_146]; exact rfl) (by rw [zm_146]; decide) (by unfold zzIn; rw [zm_146]; rfl) (by rw [zm_146]; exact Nat.le_of_ble_eq_true rfl) (Nat.le_of_ble_eq_true rfl) (G_X7_seats (by omega) (J.2 65 (((40 : Int32) * l1) + l5).toNatClampNeg) (-1 : Int32) q6 q7 hq7) rfl ?_
        show zzEv _ _ _ _ [] _ _
        refine ev_iinc (v := 1) zo_190_131 rfl (by decide) (zz_set rfl (by decide) (Nat.le_of_ble_eq_true rfl)) rfl ?_
        show zzEv _ _ _ [.ref 46, .int l1, .int l2, .int l3, .int l4, .int (l5 + 1), .int (J.2 65 (((40 : Int32) * l1) + l5).toNatClampNeg)] _ _ _
        refine ev_goto (t := 46) zo_190_134 rfl ?_
        exact ih l1 l2 l3 l4 (l5 + 1) q7 r h (.int (J.2 65 (((40 : Int32) * l1) + l5).toNatClampNeg)) rfl
      rw [if_neg c2] at h
      refine ev_if_t (t := 131) zo_190_61 rfl (zcm_ne c2) ?_
      refine ev_iinc (v := 1) zo_190_131 rfl (by decide) (zz_set rfl (by decide) (Nat.le_of_ble_eq_true rfl)) rfl ?_
      show zzEv _ _ _ [.ref 46, .int l1, .int l2, .int l3, .int l4, .int (l5 + 1), lv6] _ _ _
      refine ev_goto (t := 46) zo_190_134 rfl ?_
      exact ih l1 l2 l3 l4 (l5 + 1) J r h (lv6) hlv6
    rw [if_neg c1] at h
    refine ev_cmp_t (t := 137) zo_190_52 rfl (zcm_ge c1) ?_
    obtain rfl := Option.some.inj h
    exact ev_retV zo_190_137 zr_190
def F_X7_seeks_30 (k_X7_seeks : Int32 → Int32 → Int32 → Int32 → zzJ → Option (zzJ)) (l4 : Int32) (l5 : Int32) (J : zzJ) : Option (zzJ) := some (wI (wI J 46 38 l4) 46 39 l5)
set_option maxRecDepth 100000 in
set_option maxHeartbeats 2000000 in
theorem G_X7_seeks_30 {D d : Nat} (k_X7_seeks : Int32 → Int32 → Int32 → Int32 → zzJ → Option (zzJ)) (hk_X7_seeks : ∀ dd, D ≤ dd → ∀ (x1 : Int32) (x2 : Int32) (x3 : Int32) (x4 : Int32) (J : zzJ) (q : zzJ), k_X7_seeks x1 x2 x3 x4 J = some q → zzEv dd 190 0 [.ref 46, .int x1, .int x2, .int x3, .int x4, zzU, zzU] [] (zK J) (none, zK q)) (hd : D + 95 ≤ d) : ∀ (l4 : Int32) (l5 : Int32) (J : zzJ) (r : zzJ), F_X7_seeks_30 k_X7_seeks l4 l5 J = some r → ∀ (lv1 : Value) (hlv1 : lv1.category = 1), ∀ (lv2 : Value) (hlv2 : lv2.category = 1), ∀ (lv3 : Value) (hlv3 : lv3.category = 1), zzEv d 190 30 [.ref 46, lv1, lv2, lv3, .int l4, .int l5, zzU] [] (zK J) (none, zK r) := by
  intro l4 l5 J r h lv1 hlv1 lv2 hlv2 lv3 hlv3
  unfold F_X7_seeks_30 at h
  refine ev_aload_n zo_190_30 rfl rfl rfl rfl ?_
  refine ev_iload zo_190_31 rfl rfl ?_
  refine ev_putI zo_190_33 zf_190_324 (by decide) rfl rfl rfl rfl ?_
  refine ev_aload_n zo_190_36 rfl rfl rfl rfl ?_
  refine ev_iload zo_190_37 rfl rfl ?_
  refine ev_putI zo_190_39 zf_190_327 (by decide) rfl rfl rfl rfl ?_
  obtain rfl := Option.some.inj h
  exact ev_retV zo_190_42 zr_190
def F_X7_seeks (k_X7_seeks : Int32 → Int32 → Int32 → Int32 → zzJ → Option (zzJ)) (x1 : Int32) (x2 : Int32) (x3 : Int32) (x4 : Int32) (J : zzJ) : Option (zzJ) := (if x2 = (J.2 46 37) then (Option.bind (F_X7_joy J) fun q9 => (if (q9.2.2 46 38) = (0 : Int32) then F_X7_seeks_30 k_X7_seeks x4 q9.1 q9.2 else (if (q9.2.2 46 39) < q9.1 then F_X7_seeks_30 k_X7_seeks x4 q9.1 q9.2 else some q9.2))) else F_X7_seeks_46 k_X7_seeks 4096 x1 x2 x3 x4 (0 : Int32) J)
set_option maxRecDepth 100000 in
set_option maxHeartbeats 2000000 in
theorem G_X7_seeks {D d : Nat} (k_X7_seeks : Int32 → Int32 → Int32 → Int32 → zzJ → Option (zzJ)) (hk_X7_seeks : ∀ dd, D ≤ dd → ∀ (x1 : Int32) (x2 : Int32) (x3 : Int32) (x4 : Int32) (J : zzJ) (q : zzJ), k_X7_seeks x1 x2 x3 x4 J = some q → zzEv dd 190 0 [.ref 46, .int x1, .int x2, .int x3, .int x4, zzU, zzU] [] (zK J) (none, zK q)) (hd : D + 95 ≤ d) (x1 : Int32) (x2 : Int32) (x3 : Int32) (x4 : Int32) (J : zzJ) (r : zzJ) (h : F_X7_seeks k_X7_seeks x1 x2 x3 x4 J = some r) : zzEv d 190 0 [.ref 46, .int x1, .int x2, .int x3, .int x4, zzU, zzU] [] (zK J) (none, zK r) := by
  unfold F_X7_seeks at h
  refine ev_iload_n zo_190_0 rfl rfl rfl ?_
  refine ev_aload_n zo_190_1 rfl rfl rfl rfl ?_
  refine ev_getI zo_190_2 zf_190_321 (by decide) (Or.inl rfl) rfl rfl ?_
  by_cases c8 : x2 = (J.2 46 37)
  · rw [if_pos c8] at h
    refine ev_cmp_f (t := 43) zo_190_5 rfl (zcm_nne c8) rfl ?_
    refine ev_aload_n zo_190_8 rfl rfl rfl rfl ?_
    obtain ⟨q9, hq9, h⟩ := zz_bd h
    refine ev_cV (as := []) (lsn := [.ref 46, zzU, zzU]) (by omega) zo_190_9 zl_190_290 (by rw [zm_179]; rfl) (by rw [zm_179]; exact rfl) (by rw [zm_179]; decide) (by unfold zzIn; rw [zm_179]; rfl) (by rw [zm_179]; exact Nat.le_of_ble_eq_true rfl) (Nat.le_of_ble_eq_true rfl) (G_X7_joy (by omega) J q9 hq9) rfl ?_
    show zzEv _ _ _ _ [.int q9.1] _ _
    refine ev_istore zo_190_12 (zz_set rfl (by decide) (Nat.le_of_ble_eq_true rfl)) rfl ?_
    show zzEv _ _ _ [.ref 46, .int x1, .int x2, .int x3, .int x4, .int q9.1, zzU] _ _ _
    refine ev_aload_n zo_190_14 rfl rfl rfl rfl ?_
    refine ev_getI zo_190_15 zf_190_324 (by decide) (Or.inl rfl) rfl rfl ?_
    by_cases c10 : (q9.2.2 46 38) = (0 : Int32)
    · rw [if_pos c10] at h
      refine ev_if_t (t := 30) zo_190_18 rfl (zcm_eq c10) ?_
      exact G_X7_seeks_30 k_X7_seeks hk_X7_seeks hd x4 q9.1 q9.2 r h (.int x1) rfl (.int x2) rfl (.int x3) rfl
    rw [if_neg c10] at h
    refine ev_if_f (t := 30) zo_190_18 rfl (zcm_neq c10) rfl ?_
    refine ev_iload zo_190_21 rfl rfl ?_
    refine ev_aload_n zo_190_23 rfl rfl rfl rfl ?_
    refine ev_getI zo_190_24 zf_190_327 (by decide) (Or.inl rfl) rfl rfl ?_
    by_cases c11 : (q9.2.2 46 39) < q9.1
    · rw [if_pos c11] at h
      refine ev_cmp_f (t := 42) zo_190_27 rfl (zcm_nle c11) rfl ?_
      exact G_X7_seeks_30 k_X7_seeks hk_X7_seeks hd x4 q9.1 q9.2 r h (.int x1) rfl (.int x2) rfl (.int x3) rfl
    rw [if_neg c11] at h
    refine ev_cmp_t (t := 42) zo_190_27 rfl (zcm_le c11) ?_
    obtain rfl := Option.some.inj h
    exact ev_retV zo_190_42 zr_190
  rw [if_neg c8] at h
  refine ev_cmp_t (t := 43) zo_190_5 rfl (zcm_ne c8) ?_
  refine ev_iconst (x := 0) zo_190_43 (by decide) rfl ?_
  refine ev_istore zo_190_44 (zz_set rfl (by decide) (Nat.le_of_ble_eq_true rfl)) rfl ?_
  show zzEv _ _ _ [.ref 46, .int x1, .int x2, .int x3, .int x4, .int (0 : Int32), zzU] _ _ _
  exact G_X7_seeks_46 k_X7_seeks hk_X7_seeks hd 4096 x1 x2 x3 x4 (0 : Int32) J r h (zzU) rfl
def R_X7_seeks : Nat → (Int32 → Int32 → Int32 → Int32 → zzJ → Option (zzJ))
  | 0 => fun _ _ _ _ _ => none
  | n + 1 => F_X7_seeks ((R_X7_seeks n))
theorem RG_X7_seeks : ∀ n : Nat, (∀ dd, n * 96 ≤ dd → ∀ (x1 : Int32) (x2 : Int32) (x3 : Int32) (x4 : Int32) (J : zzJ) (q : zzJ), ((R_X7_seeks n)) x1 x2 x3 x4 J = some q → zzEv dd 190 0 [.ref 46, .int x1, .int x2, .int x3, .int x4, zzU, zzU] [] (zK J) (none, zK q)) := by
  intro n
  induction n with
  | zero => exact fun _ _ _ _ _ _ _ _ h => absurd h (by simp [R_X7_seeks])
  | succ n ih =>
    exact fun dd hdd x1 x2 x3 x4 J q h => G_X7_seeks ((R_X7_seeks n)) ih (by rw [Nat.succ_mul] at hdd; omega) x1 x2 x3 x4 J q h
def E_X7_seeks (x1 : Int32) (x2 : Int32) (x3 : Int32) (x4 : Int32) (J : zzJ) : Option (zzJ) := F_X7_seeks ((R_X7_seeks 8)) x1 x2 x3 x4 J
theorem EG_X7_seeks {d : Nat} (hd : 863 ≤ d) (x1 : Int32) (x2 : Int32) (x3 : Int32) (x4 : Int32) (J : zzJ) (r : zzJ) (h : E_X7_seeks x1 x2 x3 x4 J = some r) : zzEv d 190 0 [.ref 46, .int x1, .int x2, .int x3, .int x4, zzU, zzU] [] (zK J) (none, zK r) := G_X7_seeks ((R_X7_seeks 8)) (RG_X7_seeks 8) (by omega) x1 x2 x3 x4 J r h
/-! X7_stands -/
def F_X7_stands_2 : Nat → Int32 → zzJ → Option (zzJ)
  | 0, _, _ => none
  | n + 1, l1, J => (if l1 < (J.2 46 14) then (if zzIx l1 8 then (if zzIx l1 8 then F_X7_stands_2 n (l1 + 1) (wI J 58 l1.toNatClampNeg (J.2 53 l1.toNatClampNeg)) else none) else none) else some J)
set_option maxRecDepth 100000 in
set_option maxHeartbeats 2000000 in
theorem G_X7_stands_2 {d : Nat} (hd : 0 ≤ d) : ∀ (n : Nat) (l1 : Int32) (J : zzJ) (r : zzJ), F_X7_stands_2 n l1 J = some r → zzEv d 191 2 [.ref 46, .int l1] [] (zK J) (none, zK r) := by
  intro n
  induction n with
  | zero => intro l1 J r h; simp [F_X7_stands_2] at h
  | succ n ih =>
    intro l1 J r h
    rw [F_X7_stands_2] at h
    refine ev_iload_n zo_191_2 rfl rfl rfl ?_
    refine ev_aload_n zo_191_3 rfl rfl rfl rfl ?_
    refine ev_getI zo_191_4 zf_191_85 (by decide) (Or.inl rfl) rfl rfl ?_
    by_cases c1 : l1 < (J.2 46 14)
    · rw [if_pos c1] at h
      refine ev_cmp_f (t := 28) zo_191_7 rfl (zcm_nge c1) rfl ?_
      refine ev_aload_n zo_191_10 rfl rfl rfl rfl ?_
      refine ev_getR zo_191_11 zf_191_50 (by decide) rfl rfl rfl rfl ?_
      refine ev_iload_n zo_191_14 rfl rfl rfl ?_
      refine ev_aload_n zo_191_15 rfl rfl rfl rfl ?_
      refine ev_getR zo_191_16 zf_191_35 (by decide) rfl rfl rfl rfl ?_
      refine ev_iload_n zo_191_19 rfl rfl rfl ?_
      obtain ⟨c2, h⟩ := zz_chk h
      refine ev_iald zo_191_20 rfl c2 rfl ?_
      obtain ⟨c3, h⟩ := zz_chk h
      refine ev_iast zo_191_21 rfl c3 rfl ?_
      refine ev_iinc (v := 1) zo_191_22 rfl (by decide) (zz_set rfl (by decide) (Nat.le_of_ble_eq_true rfl)) rfl ?_
      show zzEv _ _ _ [.ref 46, .int (l1 + 1)] _ _ _
      refine ev_goto (t := 2) zo_191_25 rfl ?_
      exact ih (l1 + 1) (wI J 58 l1.toNatClampNeg (J.2 53 l1.toNatClampNeg)) r h
    rw [if_neg c1] at h
    refine ev_cmp_t (t := 28) zo_191_7 rfl (zcm_ge c1) ?_
    obtain rfl := Option.some.inj h
    exact ev_retV zo_191_28 zr_191
def F_X7_stands (J : zzJ) : Option (zzJ) := F_X7_stands_2 4096 (0 : Int32) J
set_option maxRecDepth 100000 in
set_option maxHeartbeats 2000000 in
theorem G_X7_stands {d : Nat} (hd : 0 ≤ d) (J : zzJ) (r : zzJ) (h : F_X7_stands J = some r) : zzEv d 191 0 [.ref 46, zzU] [] (zK J) (none, zK r) := by
  unfold F_X7_stands at h
  refine ev_iconst (x := 0) zo_191_0 (by decide) rfl ?_
  refine ev_istore_n zo_191_1 rfl (zz_set rfl (by decide) (Nat.le_of_ble_eq_true rfl)) rfl ?_
  show zzEv _ _ _ [.ref 46, .int (0 : Int32)] _ _ _
  exact G_X7_stands_2 hd 4096 (0 : Int32) J r h
/-! X7_sitsAgain -/
def F_X7_sitsAgain_24 : Nat → Int32 → zzJ → Option (zzJ)
  | 0, _, _ => none
  | n + 1, l1, J => (if l1 < (J.2 46 14) then (if zzIx l1 8 then (Option.bind (F_X7_seats l1 (J.2 58 l1.toNatClampNeg) J) fun q3 => F_X7_sitsAgain_24 n (l1 + 1) q3) else none) else some J)
set_option maxRecDepth 100000 in
set_option maxHeartbeats 2000000 in
theorem G_X7_sitsAgain_24 {d : Nat} (hd : 1 ≤ d) : ∀ (n : Nat) (l1 : Int32) (J : zzJ) (r : zzJ), F_X7_sitsAgain_24 n l1 J = some r → zzEv d 192 24 [.ref 46, .int l1] [] (zK J) (none, zK r) := by
  intro n
  induction n with
  | zero => intro l1 J r h; simp [F_X7_sitsAgain_24] at h
  | succ n ih =>
    intro l1 J r h
    rw [F_X7_sitsAgain_24] at h
    refine ev_iload_n zo_192_24 rfl rfl rfl ?_
    refine ev_aload_n zo_192_25 rfl rfl rfl rfl ?_
    refine ev_getI zo_192_26 zf_192_85 (by decide) (Or.inl rfl) rfl rfl ?_
    by_cases c1 : l1 < (J.2 46 14)
    · rw [if_pos c1] at h
      refine ev_cmp_f (t := 49) zo_192_29 rfl (zcm_nge c1) rfl ?_
      refine ev_aload_n zo_192_32 rfl rfl rfl rfl ?_
      refine ev_iload_n zo_192_33 rfl rfl rfl ?_
      refine ev_aload_n zo_192_34 rfl rfl rfl rfl ?_
      refine ev_getR zo_192_35 zf_192_50 (by decide) rfl rfl rfl rfl ?_
      refine ev_iload_n zo_192_38 rfl rfl rfl ?_
      obtain ⟨c2, h⟩ := zz_chk h
      refine ev_iald zo_192_39 rfl c2 rfl ?_
      obtain ⟨q3, hq3, h⟩ := zz_bd h
      refine ev_cV (as := [.int (J.2 58 l1.toNatClampNeg), .int l1]) (lsn := [.ref 46, .int l1, .int (J.2 58 l1.toNatClampNeg)]) (by omega) zo_192_40 zl_192_129 (by rw [zm_146]; rfl) (by rw [zm_146]; exact rfl) (by rw [zm_146]; decide) (by unfold zzIn; rw [zm_146]; rfl) (by rw [zm_146]; exact Nat.le_of_ble_eq_true rfl) (Nat.le_of_ble_eq_true rfl) (G_X7_seats (by omega) l1 (J.2 58 l1.toNatClampNeg) J q3 hq3) rfl ?_
      show zzEv _ _ _ _ [] _ _
      refine ev_iinc (v := 1) zo_192_43 rfl (by decide) (zz_set rfl (by decide) (Nat.le_of_ble_eq_true rfl)) rfl ?_
      show zzEv _ _ _ [.ref 46, .int (l1 + 1)] _ _ _
      refine ev_goto (t := 24) zo_192_46 rfl ?_
      exact ih (l1 + 1) q3 r h
    rw [if_neg c1] at h
    refine ev_cmp_t (t := 49) zo_192_29 rfl (zcm_ge c1) ?_
    obtain rfl := Option.some.inj h
    exact ev_retV zo_192_49 zr_192
def F_X7_sitsAgain_2 : Nat → Int32 → zzJ → Option (zzJ)
  | 0, _, _ => none
  | n + 1, l1, J => (if l1 < (J.2 46 14) then (Option.bind (F_X7_seats l1 (-1 : Int32) J) fun q5 => F_X7_sitsAgain_2 n (l1 + 1) q5) else F_X7_sitsAgain_24 4096 (0 : Int32) J)
set_option maxRecDepth 100000 in
set_option maxHeartbeats 2000000 in
theorem G_X7_sitsAgain_2 {d : Nat} (hd : 1 ≤ d) : ∀ (n : Nat) (l1 : Int32) (J : zzJ) (r : zzJ), F_X7_sitsAgain_2 n l1 J = some r → zzEv d 192 2 [.ref 46, .int l1] [] (zK J) (none, zK r) := by
  intro n
  induction n with
  | zero => intro l1 J r h; simp [F_X7_sitsAgain_2] at h
  | succ n ih =>
    intro l1 J r h
    rw [F_X7_sitsAgain_2] at h
    refine ev_iload_n zo_192_2 rfl rfl rfl ?_
    refine ev_aload_n zo_192_3 rfl rfl rfl rfl ?_
    refine ev_getI zo_192_4 zf_192_85 (by decide) (Or.inl rfl) rfl rfl ?_
    by_cases c4 : l1 < (J.2 46 14)
    · rw [if_pos c4] at h
      refine ev_cmp_f (t := 22) zo_192_7 rfl (zcm_nge c4) rfl ?_
      refine ev_aload_n zo_192_10 rfl rfl rfl rfl ?_
      refine ev_iload_n zo_192_11 rfl rfl rfl ?_
      refine ev_iconst (x := (-1)) zo_192_12 (by decide) rfl ?_
      obtain ⟨q5, hq5, h⟩ := zz_bd h
      refine ev_cV (as := [.int (-1 : Int32), .int l1]) (lsn := [.ref 46, .int l1, .int (-1 : Int32)]) (by omega) zo_192_13 zl_192_129 (by rw [zm_146]; rfl) (by rw [zm_146]; exact rfl) (by rw [zm_146]; decide) (by unfold zzIn; rw [zm_146]; rfl) (by rw [zm_146]; exact Nat.le_of_ble_eq_true rfl) (Nat.le_of_ble_eq_true rfl) (G_X7_seats (by omega) l1 (-1 : Int32) J q5 hq5) rfl ?_
      show zzEv _ _ _ _ [] _ _
      refine ev_iinc (v := 1) zo_192_16 rfl (by decide) (zz_set rfl (by decide) (Nat.le_of_ble_eq_true rfl)) rfl ?_
      show zzEv _ _ _ [.ref 46, .int (l1 + 1)] _ _ _
      refine ev_goto (t := 2) zo_192_19 rfl ?_
      exact ih (l1 + 1) q5 r h
    rw [if_neg c4] at h
    refine ev_cmp_t (t := 22) zo_192_7 rfl (zcm_ge c4) ?_
    refine ev_iconst (x := 0) zo_192_22 (by decide) rfl ?_
    refine ev_istore_n zo_192_23 rfl (zz_set rfl (by decide) (Nat.le_of_ble_eq_true rfl)) rfl ?_
    show zzEv _ _ _ [.ref 46, .int (0 : Int32)] _ _ _
    exact G_X7_sitsAgain_24 hd 4096 (0 : Int32) J r h
def F_X7_sitsAgain (J : zzJ) : Option (zzJ) := F_X7_sitsAgain_2 4096 (0 : Int32) J
set_option maxRecDepth 100000 in
set_option maxHeartbeats 2000000 in
theorem G_X7_sitsAgain {d : Nat} (hd : 1 ≤ d) (J : zzJ) (r : zzJ) (h : F_X7_sitsAgain J = some r) : zzEv d 192 0 [.ref 46, zzU] [] (zK J) (none, zK r) := by
  unfold F_X7_sitsAgain at h
  refine ev_iconst (x := 0) zo_192_0 (by decide) rfl ?_
  refine ev_istore_n zo_192_1 rfl (zz_set rfl (by decide) (Nat.le_of_ble_eq_true rfl)) rfl ?_
  show zzEv _ _ _ [.ref 46, .int (0 : Int32)] _ _ _
  exact G_X7_sitsAgain_2 hd 4096 (0 : Int32) J r h
/-! X7_isSheet -/
def F_X7_isSheet (x0 : Int32) (J : zzJ) : Option (Int32 × zzJ) := (Option.bind (F_X7_in x0.toInt64 (0 : Int64) (3 : Int64) J) fun q1 => (if q1.1 = 0 ∨ q1.1 = 1 then some (q1.1, q1.2) else none))
set_option maxRecDepth 100000 in
set_option maxHeartbeats 2000000 in
theorem G_X7_isSheet {d : Nat} (hd : 1 ≤ d) (x0 : Int32) (J : zzJ) (r : Int32 × zzJ) (h : F_X7_isSheet x0 J = some r) : zzEv d 206 0 [.int x0] [] (zK J) (some (.int r.1), zK r.2) := by
  unfold F_X7_isSheet at h
  refine ev_iload_n zo_206_0 rfl rfl rfl ?_
  refine ev_i2l zo_206_1 rfl ?_
  refine ev_lconst (x := 0) zo_206_2 (by decide) rfl ?_
  refine ev_ldc2 zo_206_3 zc_206_104 rfl ?_
  obtain ⟨q1, hq1, h⟩ := zz_bd h
  refine ev_cS (as := [.long (3 : Int64), .long (0 : Int64), .long x0.toInt64]) (lsn := [.long x0.toInt64, zzU, .long (0 : Int64), zzU, .long (3 : Int64), zzU]) (by omega) zo_206_6 zl_206_88 (by decide) (by rw [zm_136]; rfl) (by unfold zzIn; rw [zm_136]; rfl) (by rw [zm_136]; exact Nat.le_of_ble_eq_true rfl) (Nat.le_of_ble_eq_true rfl) (G_X7_in (by omega) x0.toInt64 (0 : Int64) (3 : Int64) J q1 hq1) rfl ?_
  show zzEv _ _ _ _ [.int q1.1] _ _
  obtain ⟨c2, h⟩ := zz_chk h
  obtain rfl := Option.some.inj h
  exact ev_retZ zo_206_9 zr_206 c2
/-! X7_hat -/
def F_X7_hat_44 : Nat → Int32 → Int32 → Int32 → zzJ → Option (Int32 × zzJ)
  | 0, _, _, _, _ => none
  | n + 1, l1, l2, l3, J => (if l3 < (J.2 46 37) then (if zzIx (((40 : Int32) * l1) + l3) 160 then (Option.bind (F_X7_seats (J.2 65 (((40 : Int32) * l1) + l3).toNatClampNeg) (-1 : Int32) J) fun q6 => F_X7_hat_44 n l1 l2 (l3 + 1) q6) else none) else (Option.bind (E_X7_seeks l1 (0 : Int32) (0 : Int32) (0 : Int32) (wI (wI J 46 38 (0 : Int32)) 46 39 (0 : Int32))) fun q2 => (Option.bind (F_X7_sitsAgain q2) fun q3 => (if l2 = (0 : Int32) then some ((q3.2 46 39), q3) else some ((q3.2 46 38), q3)))))
set_option maxRecDepth 100000 in
set_option maxHeartbeats 2000000 in
theorem G_X7_hat_44 {d : Nat} (hd : 864 ≤ d) : ∀ (n : Nat) (l1 : Int32) (l2 : Int32) (l3 : Int32) (J : zzJ) (r : Int32 × zzJ), F_X7_hat_44 n l1 l2 l3 J = some r → zzEv d 193 44 [.ref 46, .int l1, .int l2, .int l3] [] (zK J) (some (.int r.1), zK r.2) := by
  intro n
  induction n with
  | zero => intro l1 l2 l3 J r h; simp [F_X7_hat_44] at h
  | succ n ih =>
    intro l1 l2 l3 J r h
    rw [F_X7_hat_44] at h
    refine ev_iload_n zo_193_44 rfl rfl rfl ?_
    refine ev_aload_n zo_193_45 rfl rfl rfl rfl ?_
    refine ev_getI zo_193_46 zf_193_321 (by decide) (Or.inl rfl) rfl rfl ?_
    by_cases c1 : l3 < (J.2 46 37)
    · rw [if_pos c1] at h
      refine ev_cmp_f (t := 74) zo_193_49 rfl (zcm_nge c1) rfl ?_
      refine ev_aload_n zo_193_52 rfl rfl rfl rfl ?_
      refine ev_aload_n zo_193_53 rfl rfl rfl rfl ?_
      refine ev_getR zo_193_54 zf_193_75 (by decide) rfl rfl rfl rfl ?_
      refine ev_bipush (x := 40) zo_193_57 (by decide) rfl ?_
      refine ev_iload_n zo_193_59 rfl rfl rfl ?_
      refine ev_imul zo_193_60 rfl ?_
      refine ev_iload_n zo_193_61 rfl rfl rfl ?_
      refine ev_iadd zo_193_62 rfl ?_
      obtain ⟨c5, h⟩ := zz_chk h
      refine ev_iald zo_193_63 rfl c5 rfl ?_
      refine ev_iconst (x := (-1)) zo_193_64 (by decide) rfl ?_
      obtain ⟨q6, hq6, h⟩ := zz_bd h
      refine ev_cV (as := [.int (-1 : Int32), .int (J.2 65 (((40 : Int32) * l1) + l3).toNatClampNeg)]) (lsn := [.ref 46, .int (J.2 65 (((40 : Int32) * l1) + l3).toNatClampNeg), .int (-1 : Int32)]) (by omega) zo_193_65 zl_193_129 (by rw [zm_146]; rfl) (by rw [zm_146]; exact rfl) (by rw [zm_146]; decide) (by unfold zzIn; rw [zm_146]; rfl) (by rw [zm_146]; exact Nat.le_of_ble_eq_true rfl) (Nat.le_of_ble_eq_true rfl) (G_X7_seats (by omega) (J.2 65 (((40 : Int32) * l1) + l3).toNatClampNeg) (-1 : Int32) J q6 hq6) rfl ?_
      show zzEv _ _ _ _ [] _ _
      refine ev_iinc (v := 1) zo_193_68 rfl (by decide) (zz_set rfl (by decide) (Nat.le_of_ble_eq_true rfl)) rfl ?_
      show zzEv _ _ _ [.ref 46, .int l1, .int l2, .int (l3 + 1)] _ _ _
      refine ev_goto (t := 44) zo_193_71 rfl ?_
      exact ih l1 l2 (l3 + 1) q6 r h
    rw [if_neg c1] at h
    refine ev_cmp_t (t := 74) zo_193_49 rfl (zcm_ge c1) ?_
    refine ev_aload_n zo_193_74 rfl rfl rfl rfl ?_
    refine ev_iconst (x := 0) zo_193_75 (by decide) rfl ?_
    refine ev_putI zo_193_76 zf_193_324 (by decide) rfl rfl rfl rfl ?_
    refine ev_aload_n zo_193_79 rfl rfl rfl rfl ?_
    refine ev_iconst (x := 0) zo_193_80 (by decide) rfl ?_
    refine ev_putI zo_193_81 zf_193_327 (by decide) rfl rfl rfl rfl ?_
    refine ev_aload_n zo_193_84 rfl rfl rfl rfl ?_
    refine ev_iload_n zo_193_85 rfl rfl rfl ?_
    refine ev_iconst (x := 0) zo_193_86 (by decide) rfl ?_
    refine ev_iconst (x := 0) zo_193_87 (by decide) rfl ?_
    refine ev_iconst (x := 0) zo_193_88 (by decide) rfl ?_
    obtain ⟨q2, hq2, h⟩ := zz_bd h
    refine ev_cV (as := [.int (0 : Int32), .int (0 : Int32), .int (0 : Int32), .int l1]) (lsn := [.ref 46, .int l1, .int (0 : Int32), .int (0 : Int32), .int (0 : Int32), zzU, zzU]) (by omega) zo_193_89 zl_193_330 (by rw [zm_190]; rfl) (by rw [zm_190]; exact rfl) (by rw [zm_190]; decide) (by unfold zzIn; rw [zm_190]; rfl) (by rw [zm_190]; exact Nat.le_of_ble_eq_true rfl) (Nat.le_of_ble_eq_true rfl) (EG_X7_seeks (by omega) l1 (0 : Int32) (0 : Int32) (0 : Int32) (wI (wI J 46 38 (0 : Int32)) 46 39 (0 : Int32)) q2 hq2) rfl ?_
    show zzEv _ _ _ _ [] _ _
    refine ev_aload_n zo_193_92 rfl rfl rfl rfl ?_
    obtain ⟨q3, hq3, h⟩ := zz_bd h
    refine ev_cV (as := []) (lsn := [.ref 46, zzU]) (by omega) zo_193_93 zl_193_343 (by rw [zm_192]; rfl) (by rw [zm_192]; exact rfl) (by rw [zm_192]; decide) (by unfold zzIn; rw [zm_192]; rfl) (by rw [zm_192]; exact Nat.le_of_ble_eq_true rfl) (Nat.le_of_ble_eq_true rfl) (G_X7_sitsAgain (by omega) q2 q3 hq3) rfl ?_
    show zzEv _ _ _ _ [] _ _
    refine ev_iload_n zo_193_96 rfl rfl rfl ?_
    by_cases c4 : l2 = (0 : Int32)
    · rw [if_pos c4] at h
      refine ev_if_f (t := 107) zo_193_97 rfl (zcm_nne c4) rfl ?_
      refine ev_aload_n zo_193_100 rfl rfl rfl rfl ?_
      refine ev_getI zo_193_101 zf_193_327 (by decide) (Or.inl rfl) rfl rfl ?_
      refine ev_goto (t := 111) zo_193_104 rfl ?_
      obtain rfl := Option.some.inj h
      exact ev_retI zo_193_111 zr_193
    rw [if_neg c4] at h
    refine ev_if_t (t := 107) zo_193_97 rfl (zcm_ne c4) ?_
    refine ev_aload_n zo_193_107 rfl rfl rfl rfl ?_
    refine ev_getI zo_193_108 zf_193_324 (by decide) (Or.inl rfl) rfl rfl ?_
    obtain rfl := Option.some.inj h
    exact ev_retI zo_193_111 zr_193
def F_X7_hat (x1 : Int32) (x2 : Int32) (J : zzJ) : Option (Int32 × zzJ) := (Option.bind (F_X7_isSheet x1 J) fun q7 => (if q7.1 = (0 : Int32) then some ((-100000 : Int32), q7.2) else (Option.bind (F_X7_in x2.toInt64 (0 : Int64) (1 : Int64) q7.2) fun q9 => (if q9.1 = (0 : Int32) then some ((-100000 : Int32), q9.2) else (if zzIx x1 4 then (if (q9.2.2 62 x1.toNatClampNeg) = (0 : Int32) then some ((-100000 : Int32), q9.2) else (Option.bind (F_X7_isHat x1 q9.2) fun q13 => (if q13.1 = (0 : Int32) then some ((-100000 : Int32), q13.2) else (Option.bind (F_X7_stands q13.2) fun q15 => F_X7_hat_44 4096 x1 x2 (0 : Int32) q15)))) else none)))))
set_option maxRecDepth 100000 in
set_option maxHeartbeats 2000000 in
theorem G_X7_hat {d : Nat} (hd : 864 ≤ d) (x1 : Int32) (x2 : Int32) (J : zzJ) (r : Int32 × zzJ) (h : F_X7_hat x1 x2 J = some r) : zzEv d 193 0 [.ref 46, .int x1, .int x2, zzU] [] (zK J) (some (.int r.1), zK r.2) := by
  unfold F_X7_hat at h
  refine ev_iload_n zo_193_0 rfl rfl rfl ?_
  obtain ⟨q7, hq7, h⟩ := zz_bd h
  refine ev_cS (as := [.int x1]) (lsn := [.int x1]) (by omega) zo_193_1 zl_193_334 (by decide) (by rw [zm_206]; rfl) (by unfold zzIn; rw [zm_206]; rfl) (by rw [zm_206]; exact Nat.le_of_ble_eq_true rfl) (Nat.le_of_ble_eq_true rfl) (G_X7_isSheet (by omega) x1 J q7 hq7) rfl ?_
  show zzEv _ _ _ _ [.int q7.1] _ _
  by_cases c8 : q7.1 = (0 : Int32)
  · rw [if_pos c8] at h
    refine ev_if_t (t := 34) zo_193_4 rfl (zcm_eq c8) ?_
    refine ev_ldcw zo_193_34 zc_193_286 rfl ?_
    obtain rfl := Option.some.inj h
    exact ev_retI zo_193_37 zr_193
  rw [if_neg c8] at h
  refine ev_if_f (t := 34) zo_193_4 rfl (zcm_neq c8) rfl ?_
  refine ev_iload_n zo_193_7 rfl rfl rfl ?_
  refine ev_i2l zo_193_8 rfl ?_
  refine ev_lconst (x := 0) zo_193_9 (by decide) rfl ?_
  refine ev_lconst (x := 1) zo_193_10 (by decide) rfl ?_
  obtain ⟨q9, hq9, h⟩ := zz_bd h
  refine ev_cS (as := [.long (1 : Int64), .long (0 : Int64), .long x2.toInt64]) (lsn := [.long x2.toInt64, zzU, .long (0 : Int64), zzU, .long (1 : Int64), zzU]) (by omega) zo_193_11 zl_193_88 (by decide) (by rw [zm_136]; rfl) (by unfold zzIn; rw [zm_136]; rfl) (by rw [zm_136]; exact Nat.le_of_ble_eq_true rfl) (Nat.le_of_ble_eq_true rfl) (G_X7_in (by omega) x2.toInt64 (0 : Int64) (1 : Int64) q7.2 q9 hq9) rfl ?_
  show zzEv _ _ _ _ [.int q9.1] _ _
  by_cases c10 : q9.1 = (0 : Int32)
  · rw [if_pos c10] at h
    refine ev_if_t (t := 34) zo_193_14 rfl (zcm_eq c10) ?_
    refine ev_ldcw zo_193_34 zc_193_286 rfl ?_
    obtain rfl := Option.some.inj h
    exact ev_retI zo_193_37 zr_193
  rw [if_neg c10] at h
  refine ev_if_f (t := 34) zo_193_14 rfl (zcm_neq c10) rfl ?_
  refine ev_aload_n zo_193_17 rfl rfl rfl rfl ?_
  refine ev_getR zo_193_18 zf_193_65 (by decide) rfl rfl rfl rfl ?_
  refine ev_iload_n zo_193_21 rfl rfl rfl ?_
  obtain ⟨c11, h⟩ := zz_chk h
  refine ev_bald zo_193_22 rfl c11 rfl ?_
  by_cases c12 : (q9.2.2 62 x1.toNatClampNeg) = (0 : Int32)
  · rw [if_pos c12] at h
    refine ev_if_t (t := 34) zo_193_23 rfl (zcm_eq c12) ?_
    refine ev_ldcw zo_193_34 zc_193_286 rfl ?_
    obtain rfl := Option.some.inj h
    exact ev_retI zo_193_37 zr_193
  rw [if_neg c12] at h
  refine ev_if_f (t := 34) zo_193_23 rfl (zcm_neq c12) rfl ?_
  refine ev_aload_n zo_193_26 rfl rfl rfl rfl ?_
  refine ev_iload_n zo_193_27 rfl rfl rfl ?_
  obtain ⟨q13, hq13, h⟩ := zz_bd h
  refine ev_cV (as := [.int x1]) (lsn := [.ref 46, .int x1, zzU, zzU, zzU, zzU]) (by omega) zo_193_28 zl_193_337 (by rw [zm_189]; rfl) (by rw [zm_189]; exact rfl) (by rw [zm_189]; decide) (by unfold zzIn; rw [zm_189]; rfl) (by rw [zm_189]; exact Nat.le_of_ble_eq_true rfl) (Nat.le_of_ble_eq_true rfl) (G_X7_isHat (by omega) x1 q9.2 q13 hq13) rfl ?_
  show zzEv _ _ _ _ [.int q13.1] _ _
  by_cases c14 : q13.1 = (0 : Int32)
  · rw [if_pos c14] at h
    refine ev_if_f (t := 38) zo_193_31 rfl (zcm_nne c14) rfl ?_
    refine ev_ldcw zo_193_34 zc_193_286 rfl ?_
    obtain rfl := Option.some.inj h
    exact ev_retI zo_193_37 zr_193
  rw [if_neg c14] at h
  refine ev_if_t (t := 38) zo_193_31 rfl (zcm_ne c14) ?_
  refine ev_aload_n zo_193_38 rfl rfl rfl rfl ?_
  obtain ⟨q15, hq15, h⟩ := zz_bd h
  refine ev_cV (as := []) (lsn := [.ref 46, zzU]) (by omega) zo_193_39 zl_193_340 (by rw [zm_191]; rfl) (by rw [zm_191]; exact rfl) (by rw [zm_191]; decide) (by unfold zzIn; rw [zm_191]; rfl) (by rw [zm_191]; exact Nat.le_of_ble_eq_true rfl) (Nat.le_of_ble_eq_true rfl) (G_X7_stands (by omega) q13.2 q15 hq15) rfl ?_
  show zzEv _ _ _ _ [] _ _
  refine ev_iconst (x := 0) zo_193_42 (by decide) rfl ?_
  refine ev_istore_n zo_193_43 rfl (zz_set rfl (by decide) (Nat.le_of_ble_eq_true rfl)) rfl ?_
  show zzEv _ _ _ [.ref 46, .int x1, .int x2, .int (0 : Int32)] _ _ _
  exact G_X7_hat_44 hd 4096 x1 x2 (0 : Int32) q15 r h
/-! X7_front -/
def F_X7_front_162 (l2 : Int32) (J : zzJ) : Option (Int32 × zzJ) := (if l2 = (0 : Int32) then some ((J.2 46 35), J) else some ((J.2 46 36), J))
set_option maxRecDepth 100000 in
set_option maxHeartbeats 2000000 in
theorem G_X7_front_162 {d : Nat} (hd : 95 ≤ d) : ∀ (l2 : Int32) (J : zzJ) (r : Int32 × zzJ), F_X7_front_162 l2 J = some r → ∀ (lv1 : Value) (hlv1 : lv1.category = 1), ∀ (lv3 : Value) (hlv3 : lv3.category = 1), ∀ (lv4 : Value) (hlv4 : lv4.category = 1), ∀ (lv5 : Value) (hlv5 : lv5.category = 1), zzEv d 194 162 [.ref 46, lv1, .int l2, lv3, lv4, lv5] [] (zK J) (some (.int r.1), zK r.2) := by
  intro l2 J r h lv1 hlv1 lv3 hlv3 lv4 hlv4 lv5 hlv5
  unfold F_X7_front_162 at h
  refine ev_iload_n zo_194_162 rfl rfl rfl ?_
  by_cases c1 : l2 = (0 : Int32)
  · rw [if_pos c1] at h
    refine ev_if_f (t := 173) zo_194_163 rfl (zcm_nne c1) rfl ?_
    refine ev_aload_n zo_194_166 rfl rfl rfl rfl ?_
    refine ev_getI zo_194_167 zf_194_304 (by decide) (Or.inl rfl) rfl rfl ?_
    refine ev_goto (t := 177) zo_194_170 rfl ?_
    obtain rfl := Option.some.inj h
    exact ev_retI zo_194_177 zr_194
  rw [if_neg c1] at h
  refine ev_if_t (t := 173) zo_194_163 rfl (zcm_ne c1) ?_
  refine ev_aload_n zo_194_173 rfl rfl rfl rfl ?_
  refine ev_getI zo_194_174 zf_194_307 (by decide) (Or.inl rfl) rfl rfl ?_
  obtain rfl := Option.some.inj h
  exact ev_retI zo_194_177 zr_194
def F_X7_front_81 : Nat → Int32 → Int32 → Int32 → Int32 → zzJ → Option (Int32 × zzJ)
  | 0, _, _, _, _, _ => none
  | n + 1, l1, l2, l3, l4, J => (if l4 < (J.2 46 14) then (if l3 = (-1 : Int32) then F_X7_front_162 l2 J else (if zzIx l4 8 then (if (J.2 53 l4.toNatClampNeg) = (-1 : Int32) then F_X7_front_81 n l1 l2 l3 (l4 + 1) J else (Option.bind (F_X7_seats l4 l3 J) fun q6 => (Option.bind (F_X7_rides l1 (-1 : Int32) q6) fun q7 => (Option.bind (F_X7_seats l4 (J.2 53 l4.toNatClampNeg) q7) fun q8 => (if (q8.2 46 33) < (q8.2 46 36) then F_X7_front_81 n l1 l2 l3 (l4 + 1) (wI (wI q8 46 35 l4) 46 36 ((wI q8 46 35 l4).2 46 33)) else F_X7_front_81 n l1 l2 l3 (l4 + 1) q8))))) else none)) else F_X7_front_162 l2 J)
set_option maxRecDepth 100000 in
set_option maxHeartbeats 2000000 in
theorem G_X7_front_81 {d : Nat} (hd : 95 ≤ d) : ∀ (n : Nat) (l1 : Int32) (l2 : Int32) (l3 : Int32) (l4 : Int32) (J : zzJ) (r : Int32 × zzJ), F_X7_front_81 n l1 l2 l3 l4 J = some r → ∀ (lv5 : Value) (hlv5 : lv5.category = 1), zzEv d 194 81 [.ref 46, .int l1, .int l2, .int l3, .int l4, lv5] [] (zK J) (some (.int r.1), zK r.2) := by
  intro n
  induction n with
  | zero => intro l1 l2 l3 l4 J r h; simp [F_X7_front_81] at h
  | succ n ih =>
    intro l1 l2 l3 l4 J r h lv5 hlv5
    rw [F_X7_front_81] at h
    refine ev_iload zo_194_81 rfl rfl ?_
    refine ev_aload_n zo_194_83 rfl rfl rfl rfl ?_
    refine ev_getI zo_194_84 zf_194_85 (by decide) (Or.inl rfl) rfl rfl ?_
    by_cases c2 : l4 < (J.2 46 14)
    · rw [if_pos c2] at h
      refine ev_cmp_f (t := 162) zo_194_87 rfl (zcm_nge c2) rfl ?_
      refine ev_iload_n zo_194_90 rfl rfl rfl ?_
      refine ev_iconst (x := (-1)) zo_194_91 (by decide) rfl ?_
      by_cases c3 : l3 = (-1 : Int32)
      · rw [if_pos c3] at h
        refine ev_cmp_t (t := 162) zo_194_92 rfl (zcm_eq c3) ?_
        exact G_X7_front_162 hd l2 J r h (.int l1) rfl (.int l3) rfl (.int l4) rfl (lv5) hlv5
      rw [if_neg c3] at h
      refine ev_cmp_f (t := 162) zo_194_92 rfl (zcm_neq c3) rfl ?_
      refine ev_aload_n zo_194_95 rfl rfl rfl rfl ?_
      refine ev_getR zo_194_96 zf_194_35 (by decide) rfl rfl rfl rfl ?_
      refine ev_iload zo_194_99 rfl rfl ?_
      obtain ⟨c4, h⟩ := zz_chk h
      refine ev_iald zo_194_101 rfl c4 rfl ?_
      refine ev_istore zo_194_102 (zz_set rfl (by decide) (Nat.le_of_ble_eq_true rfl)) rfl ?_
      show zzEv _ _ _ [.ref 46, .int l1, .int l2, .int l3, .int l4, .int (J.2 53 l4.toNatClampNeg)] _ _ _
      refine ev_iload zo_194_104 rfl rfl ?_
      refine ev_iconst (x := (-1)) zo_194_106 (by decide) rfl ?_
      by_cases c5 : (J.2 53 l4.toNatClampNeg) = (-1 : Int32)
      · rw [if_pos c5] at h
        refine ev_cmp_t (t := 156) zo_194_107 rfl (zcm_eq c5) ?_
        refine ev_iinc (v := 1) zo_194_156 rfl (by decide) (zz_set rfl (by decide) (Nat.le_of_ble_eq_true rfl)) rfl ?_
        show zzEv _ _ _ [.ref 46, .int l1, .int l2, .int l3, .int (l4 + 1), .int (J.2 53 l4.toNatClampNeg)] _ _ _
        refine ev_goto (t := 81) zo_194_159 rfl ?_
        exact ih l1 l2 l3 (l4 + 1) J r h (.int (J.2 53 l4.toNatClampNeg)) rfl
      rw [if_neg c5] at h
      refine ev_cmp_f (t := 156) zo_194_107 rfl (zcm_neq c5) rfl ?_
      refine ev_aload_n zo_194_110 rfl rfl rfl rfl ?_
      refine ev_iload zo_194_111 rfl rfl ?_
      refine ev_iload_n zo_194_113 rfl rfl rfl ?_
      obtain ⟨q6, hq6, h⟩ := zz_bd h
      refine ev_cV (as := [.int l3, .int l4]) (lsn := [.ref 46, .int l4, .int l3]) (by omega) zo_194_114 zl_194_129 (by rw [zm_146]; rfl) (by rw [zm_146]; exact rfl) (by rw [zm_146]; decide) (by unfold zzIn; rw [zm_146]; rfl) (by rw [zm_146]; exact Nat.le_of_ble_eq_true rfl) (Nat.le_of_ble_eq_true rfl) (G_X7_seats (by omega) l4 l3 J q6 hq6) rfl ?_
      show zzEv _ _ _ _ [] _ _
      refine ev_aload_n zo_194_117 rfl rfl rfl rfl ?_
      refine ev_iload_n zo_194_118 rfl rfl rfl ?_
      refine ev_iconst (x := (-1)) zo_194_119 (by decide) rfl ?_
      obtain ⟨q7, hq7, h⟩ := zz_bd h
      refine ev_cV (as := [.int (-1 : Int32), .int l1]) (lsn := [.ref 46, .int l1, .int (-1 : Int32), zzU, zzU]) (by omega) zo_194_120 zl_194_301 (by rw [zm_181]; rfl) (by rw [zm_181]; exact rfl) (by rw [zm_181]; decide) (by unfold zzIn; rw [zm_181]; rfl) (by rw [zm_181]; exact Nat.le_of_ble_eq_true rfl) (Nat.le_of_ble_eq_true rfl) (G_X7_rides (by omega) l1 (-1 : Int32) q6 q7 hq7) rfl ?_
      show zzEv _ _ _ _ [] _ _
      refine ev_aload_n zo_194_123 rfl rfl rfl rfl ?_
      refine ev_iload zo_194_124 rfl rfl ?_
      refine ev_iload zo_194_126 rfl rfl ?_
      obtain ⟨q8, hq8, h⟩ := zz_bd h
      refine ev_cV (as := [.int (J.2 53 l4.toNatClampNeg), .int l4]) (lsn := [.ref 46, .int l4, .int (J.2 53 l4.toNatClampNeg)]) (by omega) zo_194_128 zl_194_129 (by rw [zm_146]; rfl) (by rw [zm_146]; exact rfl) (by rw [zm_146]; decide) (by unfold zzIn; rw [zm_146]; rfl) (by rw [zm_146]; exact Nat.le_of_ble_eq_true rfl) (Nat.le_of_ble_eq_true rfl) (G_X7_seats (by omega) l4 (J.2 53 l4.toNatClampNeg) q7 q8 hq8) rfl ?_
      show zzEv _ _ _ _ [] _ _
      refine ev_aload_n zo_194_131 rfl rfl rfl rfl ?_
      refine ev_getI zo_194_132 zf_194_293 (by decide) (Or.inl rfl) rfl rfl ?_
      refine ev_aload_n zo_194_135 rfl rfl rfl rfl ?_
      refine ev_getI zo_194_136 zf_194_307 (by decide) (Or.inl rfl) rfl rfl ?_
      by_cases c9 : (q8.2 46 33) < (q8.2 46 36)
      · rw [if_pos c9] at h
        refine ev_cmp_f (t := 156) zo_194_139 rfl (zcm_nge c9) rfl ?_
        refine ev_aload_n zo_194_142 rfl rfl rfl rfl ?_
        refine ev_iload zo_194_143 rfl rfl ?_
        refine ev_putI zo_194_145 zf_194_304 (by decide) rfl rfl rfl rfl ?_
        refine ev_aload_n zo_194_148 rfl rfl rfl rfl ?_
        refine ev_aload_n zo_194_149 rfl rfl rfl rfl ?_
        refine ev_getI zo_194_150 zf_194_293 (by decide) (Or.inl rfl) rfl rfl ?_
        refine ev_putI zo_194_153 zf_194_307 (by decide) rfl rfl rfl rfl ?_
        refine ev_iinc (v := 1) zo_194_156 rfl (by decide) (zz_set rfl (by decide) (Nat.le_of_ble_eq_true rfl)) rfl ?_
        show zzEv _ _ _ [.ref 46, .int l1, .int l2, .int l3, .int (l4 + 1), .int (J.2 53 l4.toNatClampNeg)] _ _ _
        refine ev_goto (t := 81) zo_194_159 rfl ?_
        exact ih l1 l2 l3 (l4 + 1) (wI (wI q8 46 35 l4) 46 36 ((wI q8 46 35 l4).2 46 33)) r h (.int (J.2 53 l4.toNatClampNeg)) rfl
      rw [if_neg c9] at h
      refine ev_cmp_t (t := 156) zo_194_139 rfl (zcm_ge c9) ?_
      refine ev_iinc (v := 1) zo_194_156 rfl (by decide) (zz_set rfl (by decide) (Nat.le_of_ble_eq_true rfl)) rfl ?_
      show zzEv _ _ _ [.ref 46, .int l1, .int l2, .int l3, .int (l4 + 1), .int (J.2 53 l4.toNatClampNeg)] _ _ _
      refine ev_goto (t := 81) zo_194_159 rfl ?_
      exact ih l1 l2 l3 (l4 + 1) q8 r h (.int (J.2 53 l4.toNatClampNeg)) rfl
    rw [if_neg c2] at h
    refine ev_cmp_t (t := 162) zo_194_87 rfl (zcm_ge c2) ?_
    exact G_X7_front_162 hd l2 J r h (.int l1) rfl (.int l3) rfl (.int l4) rfl (lv5) hlv5
def F_X7_front_49 : Nat → Int32 → Int32 → Int32 → Int32 → zzJ → Option (Int32 × zzJ)
  | 0, _, _, _, _, _ => none
  | n + 1, l1, l2, l3, l4, J => (if l4 < (0 : Int32) then F_X7_front_81 4096 l1 l2 l3 (0 : Int32) J else (if zzIx l4 24 then (if (J.2 54 l4.toNatClampNeg) = (-1 : Int32) then F_X7_front_49 n l1 l2 l4 (l4 + (-1)) J else F_X7_front_49 n l1 l2 l3 (l4 + (-1)) J) else none))
set_option maxRecDepth 100000 in
set_option maxHeartbeats 2000000 in
theorem G_X7_front_49 {d : Nat} (hd : 95 ≤ d) : ∀ (n : Nat) (l1 : Int32) (l2 : Int32) (l3 : Int32) (l4 : Int32) (J : zzJ) (r : Int32 × zzJ), F_X7_front_49 n l1 l2 l3 l4 J = some r → zzEv d 194 49 [.ref 46, .int l1, .int l2, .int l3, .int l4, zzU] [] (zK J) (some (.int r.1), zK r.2) := by
  intro n
  induction n with
  | zero => intro l1 l2 l3 l4 J r h; simp [F_X7_front_49] at h
  | succ n ih =>
    intro l1 l2 l3 l4 J r h
    rw [F_X7_front_49] at h
    refine ev_iload zo_194_49 rfl rfl ?_
    by_cases c10 : l4 < (0 : Int32)
    · rw [if_pos c10] at h
      refine ev_if_t (t := 78) zo_194_51 rfl (zcm_lt c10) ?_
      refine ev_iconst (x := 0) zo_194_78 (by decide) rfl ?_
      refine ev_istore zo_194_79 (zz_set rfl (by decide) (Nat.le_of_ble_eq_true rfl)) rfl ?_
      show zzEv _ _ _ [.ref 46, .int l1, .int l2, .int l3, .int (0 : Int32), zzU] _ _ _
      exact G_X7_front_81 hd 4096 l1 l2 l3 (0 : Int32) J r h (zzU) rfl
    rw [if_neg c10] at h
    refine ev_if_f (t := 78) zo_194_51 rfl (zcm_nlt c10) rfl ?_
    refine ev_aload_n zo_194_54 rfl rfl rfl rfl ?_
    refine ev_getR zo_194_55 zf_194_38 (by decide) rfl rfl rfl rfl ?_
    refine ev_iload zo_194_58 rfl rfl ?_
    obtain ⟨c11, h⟩ := zz_chk h
    refine ev_iald zo_194_60 rfl c11 rfl ?_
    refine ev_iconst (x := (-1)) zo_194_61 (by decide) rfl ?_
    by_cases c12 : (J.2 54 l4.toNatClampNeg) = (-1 : Int32)
    · rw [if_pos c12] at h
      refine ev_cmp_f (t := 70) zo_194_62 rfl (zcm_nne c12) rfl ?_
      refine ev_iload zo_194_65 rfl rfl ?_
      refine ev_goto (t := 71) zo_194_67 rfl ?_
      refine ev_istore_n zo_194_71 rfl (zz_set rfl (by decide) (Nat.le_of_ble_eq_true rfl)) rfl ?_
      show zzEv _ _ _ [.ref 46, .int l1, .int l2, .int l4, .int l4, zzU] _ _ _
      refine ev_iinc (v := (-1)) zo_194_72 rfl (by decide) (zz_set rfl (by decide) (Nat.le_of_ble_eq_true rfl)) rfl ?_
      show zzEv _ _ _ [.ref 46, .int l1, .int l2, .int l4, .int (l4 + (-1)), zzU] _ _ _
      refine ev_goto (t := 49) zo_194_75 rfl ?_
      exact ih l1 l2 l4 (l4 + (-1)) J r h
    rw [if_neg c12] at h
    refine ev_cmp_t (t := 70) zo_194_62 rfl (zcm_ne c12) ?_
    refine ev_iload_n zo_194_70 rfl rfl rfl ?_
    refine ev_istore_n zo_194_71 rfl (zz_set rfl (by decide) (Nat.le_of_ble_eq_true rfl)) rfl ?_
    show zzEv _ _ _ [.ref 46, .int l1, .int l2, .int l3, .int l4, zzU] _ _ _
    refine ev_iinc (v := (-1)) zo_194_72 rfl (by decide) (zz_set rfl (by decide) (Nat.le_of_ble_eq_true rfl)) rfl ?_
    show zzEv _ _ _ [.ref 46, .int l1, .int l2, .int l3, .int (l4 + (-1)), zzU] _ _ _
    refine ev_goto (t := 49) zo_194_75 rfl ?_
    exact ih l1 l2 l3 (l4 + (-1)) J r h
def F_X7_front (x1 : Int32) (x2 : Int32) (J : zzJ) : Option (Int32 × zzJ) := (Option.bind (F_X7_in x1.toInt64 (0 : Int64) (60 : Int64) J) fun q13 => (if q13.1 = (0 : Int32) then some ((-2 : Int32), q13.2) else (Option.bind (F_X7_in x2.toInt64 (0 : Int64) (1 : Int64) q13.2) fun q15 => (if q15.1 = (0 : Int32) then some ((-2 : Int32), q15.2) else (Option.bind (F_X7_rides x1 (-1 : Int32) q15.2) fun q17 => F_X7_front_49 4096 x1 x2 (-1 : Int32) (3 : Int32) (wI (wI q17 46 35 (-1 : Int32)) 46 36 ((wI q17 46 35 (-1 : Int32)).2 46 33)))))))
set_option maxRecDepth 100000 in
set_option maxHeartbeats 2000000 in
theorem G_X7_front {d : Nat} (hd : 95 ≤ d) (x1 : Int32) (x2 : Int32) (J : zzJ) (r : Int32 × zzJ) (h : F_X7_front x1 x2 J = some r) : zzEv d 194 0 [.ref 46, .int x1, .int x2, zzU, zzU, zzU] [] (zK J) (some (.int r.1), zK r.2) := by
  unfold F_X7_front at h
  refine ev_iload_n zo_194_0 rfl rfl rfl ?_
  refine ev_i2l zo_194_1 rfl ?_
  refine ev_lconst (x := 0) zo_194_2 (by decide) rfl ?_
  refine ev_ldc2 zo_194_3 zc_194_253 rfl ?_
  obtain ⟨q13, hq13, h⟩ := zz_bd h
  refine ev_cS (as := [.long (60 : Int64), .long (0 : Int64), .long x1.toInt64]) (lsn := [.long x1.toInt64, zzU, .long (0 : Int64), zzU, .long (60 : Int64), zzU]) (by omega) zo_194_6 zl_194_88 (by decide) (by rw [zm_136]; rfl) (by unfold zzIn; rw [zm_136]; rfl) (by rw [zm_136]; exact Nat.le_of_ble_eq_true rfl) (Nat.le_of_ble_eq_true rfl) (G_X7_in (by omega) x1.toInt64 (0 : Int64) (60 : Int64) J q13 hq13) rfl ?_
  show zzEv _ _ _ _ [.int q13.1] _ _
  by_cases c14 : q13.1 = (0 : Int32)
  · rw [if_pos c14] at h
    refine ev_if_t (t := 22) zo_194_9 rfl (zcm_eq c14) ?_
    refine ev_bipush (x := (-2)) zo_194_22 (by decide) rfl ?_
    obtain rfl := Option.some.inj h
    exact ev_retI zo_194_24 zr_194
  rw [if_neg c14] at h
  refine ev_if_f (t := 22) zo_194_9 rfl (zcm_neq c14) rfl ?_
  refine ev_iload_n zo_194_12 rfl rfl rfl ?_
  refine ev_i2l zo_194_13 rfl ?_
  refine ev_lconst (x := 0) zo_194_14 (by decide) rfl ?_
  refine ev_lconst (x := 1) zo_194_15 (by decide) rfl ?_
  obtain ⟨q15, hq15, h⟩ := zz_bd h
  refine ev_cS (as := [.long (1 : Int64), .long (0 : Int64), .long x2.toInt64]) (lsn := [.long x2.toInt64, zzU, .long (0 : Int64), zzU, .long (1 : Int64), zzU]) (by omega) zo_194_16 zl_194_88 (by decide) (by rw [zm_136]; rfl) (by unfold zzIn; rw [zm_136]; rfl) (by rw [zm_136]; exact Nat.le_of_ble_eq_true rfl) (Nat.le_of_ble_eq_true rfl) (G_X7_in (by omega) x2.toInt64 (0 : Int64) (1 : Int64) q13.2 q15 hq15) rfl ?_
  show zzEv _ _ _ _ [.int q15.1] _ _
  by_cases c16 : q15.1 = (0 : Int32)
  · rw [if_pos c16] at h
    refine ev_if_f (t := 25) zo_194_19 rfl (zcm_nne c16) rfl ?_
    refine ev_bipush (x := (-2)) zo_194_22 (by decide) rfl ?_
    obtain rfl := Option.some.inj h
    exact ev_retI zo_194_24 zr_194
  rw [if_neg c16] at h
  refine ev_if_t (t := 25) zo_194_19 rfl (zcm_ne c16) ?_
  refine ev_aload_n zo_194_25 rfl rfl rfl rfl ?_
  refine ev_iload_n zo_194_26 rfl rfl rfl ?_
  refine ev_iconst (x := (-1)) zo_194_27 (by decide) rfl ?_
  obtain ⟨q17, hq17, h⟩ := zz_bd h
  refine ev_cV (as := [.int (-1 : Int32), .int x1]) (lsn := [.ref 46, .int x1, .int (-1 : Int32), zzU, zzU]) (by omega) zo_194_28 zl_194_301 (by rw [zm_181]; rfl) (by rw [zm_181]; exact rfl) (by rw [zm_181]; decide) (by unfold zzIn; rw [zm_181]; rfl) (by rw [zm_181]; exact Nat.le_of_ble_eq_true rfl) (Nat.le_of_ble_eq_true rfl) (G_X7_rides (by omega) x1 (-1 : Int32) q15.2 q17 hq17) rfl ?_
  show zzEv _ _ _ _ [] _ _
  refine ev_aload_n zo_194_31 rfl rfl rfl rfl ?_
  refine ev_iconst (x := (-1)) zo_194_32 (by decide) rfl ?_
  refine ev_putI zo_194_33 zf_194_304 (by decide) rfl rfl rfl rfl ?_
  refine ev_aload_n zo_194_36 rfl rfl rfl rfl ?_
  refine ev_aload_n zo_194_37 rfl rfl rfl rfl ?_
  refine ev_getI zo_194_38 zf_194_293 (by decide) (Or.inl rfl) rfl rfl ?_
  refine ev_putI zo_194_41 zf_194_307 (by decide) rfl rfl rfl rfl ?_
  refine ev_iconst (x := (-1)) zo_194_44 (by decide) rfl ?_
  refine ev_istore_n zo_194_45 rfl (zz_set rfl (by decide) (Nat.le_of_ble_eq_true rfl)) rfl ?_
  show zzEv _ _ _ [.ref 46, .int x1, .int x2, .int (-1 : Int32), zzU, zzU] _ _ _
  refine ev_iconst (x := 3) zo_194_46 (by decide) rfl ?_
  refine ev_istore zo_194_47 (zz_set rfl (by decide) (Nat.le_of_ble_eq_true rfl)) rfl ?_
  show zzEv _ _ _ [.ref 46, .int x1, .int x2, .int (-1 : Int32), .int (3 : Int32), zzU] _ _ _
  exact G_X7_front_49 hd 4096 x1 x2 (-1 : Int32) (3 : Int32) (wI (wI q17 46 35 (-1 : Int32)) 46 36 ((wI q17 46 35 (-1 : Int32)).2 46 33)) r h
/-! X7_stop -/
def F_X7_stop_46 : Nat → Int32 → Int32 → Int32 → zzJ → Option (Int32 × zzJ)
  | 0, _, _, _, _ => none
  | n + 1, l1, l2, l3, J => (if l3 < l1 then (Option.bind (F_X7_rides l1 l3 J) fun q3 => (if (q3.2 46 33) < (q3.2 46 36) then F_X7_stop_46 n l1 l2 (l3 + 1) (wI (wI q3 46 35 l3) 46 36 ((wI q3 46 35 l3).2 46 33)) else F_X7_stop_46 n l1 l2 (l3 + 1) q3)) else (if l2 = (0 : Int32) then some ((J.2 46 35), J) else some ((J.2 46 36), J)))
set_option maxRecDepth 100000 in
set_option maxHeartbeats 2000000 in
theorem G_X7_stop_46 {d : Nat} (hd : 95 ≤ d) : ∀ (n : Nat) (l1 : Int32) (l2 : Int32) (l3 : Int32) (J : zzJ) (r : Int32 × zzJ), F_X7_stop_46 n l1 l2 l3 J = some r → zzEv d 195 46 [.ref 46, .int l1, .int l2, .int l3] [] (zK J) (some (.int r.1), zK r.2) := by
  intro n
  induction n with
  | zero => intro l1 l2 l3 J r h; simp [F_X7_stop_46] at h
  | succ n ih =>
    intro l1 l2 l3 J r h
    rw [F_X7_stop_46] at h
    refine ev_iload_n zo_195_46 rfl rfl rfl ?_
    refine ev_iload_n zo_195_47 rfl rfl rfl ?_
    by_cases c1 : l3 < l1
    · rw [if_pos c1] at h
      refine ev_cmp_f (t := 87) zo_195_48 rfl (zcm_nge c1) rfl ?_
      refine ev_aload_n zo_195_51 rfl rfl rfl rfl ?_
      refine ev_iload_n zo_195_52 rfl rfl rfl ?_
      refine ev_iload_n zo_195_53 rfl rfl rfl ?_
      obtain ⟨q3, hq3, h⟩ := zz_bd h
      refine ev_cV (as := [.int l3, .int l1]) (lsn := [.ref 46, .int l1, .int l3, zzU, zzU]) (by omega) zo_195_54 zl_195_301 (by rw [zm_181]; rfl) (by rw [zm_181]; exact rfl) (by rw [zm_181]; decide) (by unfold zzIn; rw [zm_181]; rfl) (by rw [zm_181]; exact Nat.le_of_ble_eq_true rfl) (Nat.le_of_ble_eq_true rfl) (G_X7_rides (by omega) l1 l3 J q3 hq3) rfl ?_
      show zzEv _ _ _ _ [] _ _
      refine ev_aload_n zo_195_57 rfl rfl rfl rfl ?_
      refine ev_getI zo_195_58 zf_195_293 (by decide) (Or.inl rfl) rfl rfl ?_
      refine ev_aload_n zo_195_61 rfl rfl rfl rfl ?_
      refine ev_getI zo_195_62 zf_195_307 (by decide) (Or.inl rfl) rfl rfl ?_
      by_cases c4 : (q3.2 46 33) < (q3.2 46 36)
      · rw [if_pos c4] at h
        refine ev_cmp_f (t := 81) zo_195_65 rfl (zcm_nge c4) rfl ?_
        refine ev_aload_n zo_195_68 rfl rfl rfl rfl ?_
        refine ev_iload_n zo_195_69 rfl rfl rfl ?_
        refine ev_putI zo_195_70 zf_195_304 (by decide) rfl rfl rfl rfl ?_
        refine ev_aload_n zo_195_73 rfl rfl rfl rfl ?_
        refine ev_aload_n zo_195_74 rfl rfl rfl rfl ?_
        refine ev_getI zo_195_75 zf_195_293 (by decide) (Or.inl rfl) rfl rfl ?_
        refine ev_putI zo_195_78 zf_195_307 (by decide) rfl rfl rfl rfl ?_
        refine ev_iinc (v := 1) zo_195_81 rfl (by decide) (zz_set rfl (by decide) (Nat.le_of_ble_eq_true rfl)) rfl ?_
        show zzEv _ _ _ [.ref 46, .int l1, .int l2, .int (l3 + 1)] _ _ _
        refine ev_goto (t := 46) zo_195_84 rfl ?_
        exact ih l1 l2 (l3 + 1) (wI (wI q3 46 35 l3) 46 36 ((wI q3 46 35 l3).2 46 33)) r h
      rw [if_neg c4] at h
      refine ev_cmp_t (t := 81) zo_195_65 rfl (zcm_ge c4) ?_
      refine ev_iinc (v := 1) zo_195_81 rfl (by decide) (zz_set rfl (by decide) (Nat.le_of_ble_eq_true rfl)) rfl ?_
      show zzEv _ _ _ [.ref 46, .int l1, .int l2, .int (l3 + 1)] _ _ _
      refine ev_goto (t := 46) zo_195_84 rfl ?_
      exact ih l1 l2 (l3 + 1) q3 r h
    rw [if_neg c1] at h
    refine ev_cmp_t (t := 87) zo_195_48 rfl (zcm_ge c1) ?_
    refine ev_iload_n zo_195_87 rfl rfl rfl ?_
    by_cases c2 : l2 = (0 : Int32)
    · rw [if_pos c2] at h
      refine ev_if_f (t := 98) zo_195_88 rfl (zcm_nne c2) rfl ?_
      refine ev_aload_n zo_195_91 rfl rfl rfl rfl ?_
      refine ev_getI zo_195_92 zf_195_304 (by decide) (Or.inl rfl) rfl rfl ?_
      refine ev_goto (t := 102) zo_195_95 rfl ?_
      obtain rfl := Option.some.inj h
      exact ev_retI zo_195_102 zr_195
    rw [if_neg c2] at h
    refine ev_if_t (t := 98) zo_195_88 rfl (zcm_ne c2) ?_
    refine ev_aload_n zo_195_98 rfl rfl rfl rfl ?_
    refine ev_getI zo_195_99 zf_195_307 (by decide) (Or.inl rfl) rfl rfl ?_
    obtain rfl := Option.some.inj h
    exact ev_retI zo_195_102 zr_195
def F_X7_stop (x1 : Int32) (x2 : Int32) (J : zzJ) : Option (Int32 × zzJ) := (Option.bind (F_X7_in x1.toInt64 (0 : Int64) (60 : Int64) J) fun q5 => (if q5.1 = (0 : Int32) then some ((-2 : Int32), q5.2) else (Option.bind (F_X7_in x2.toInt64 (0 : Int64) (1 : Int64) q5.2) fun q7 => (if q7.1 = (0 : Int32) then some ((-2 : Int32), q7.2) else (Option.bind (F_X7_rides x1 (-1 : Int32) q7.2) fun q9 => F_X7_stop_46 4096 x1 x2 (0 : Int32) (wI (wI q9 46 35 (-1 : Int32)) 46 36 ((wI q9 46 35 (-1 : Int32)).2 46 33)))))))
set_option maxRecDepth 100000 in
set_option maxHeartbeats 2000000 in
theorem G_X7_stop {d : Nat} (hd : 95 ≤ d) (x1 : Int32) (x2 : Int32) (J : zzJ) (r : Int32 × zzJ) (h : F_X7_stop x1 x2 J = some r) : zzEv d 195 0 [.ref 46, .int x1, .int x2, zzU] [] (zK J) (some (.int r.1), zK r.2) := by
  unfold F_X7_stop at h
  refine ev_iload_n zo_195_0 rfl rfl rfl ?_
  refine ev_i2l zo_195_1 rfl ?_
  refine ev_lconst (x := 0) zo_195_2 (by decide) rfl ?_
  refine ev_ldc2 zo_195_3 zc_195_253 rfl ?_
  obtain ⟨q5, hq5, h⟩ := zz_bd h
  refine ev_cS (as := [.long (60 : Int64), .long (0 : Int64), .long x1.toInt64]) (lsn := [.long x1.toInt64, zzU, .long (0 : Int64), zzU, .long (60 : Int64), zzU]) (by omega) zo_195_6 zl_195_88 (by decide) (by rw [zm_136]; rfl) (by unfold zzIn; rw [zm_136]; rfl) (by rw [zm_136]; exact Nat.le_of_ble_eq_true rfl) (Nat.le_of_ble_eq_true rfl) (G_X7_in (by omega) x1.toInt64 (0 : Int64) (60 : Int64) J q5 hq5) rfl ?_
  show zzEv _ _ _ _ [.int q5.1] _ _
  by_cases c6 : q5.1 = (0 : Int32)
  · rw [if_pos c6] at h
    refine ev_if_t (t := 22) zo_195_9 rfl (zcm_eq c6) ?_
    refine ev_bipush (x := (-2)) zo_195_22 (by decide) rfl ?_
    obtain rfl := Option.some.inj h
    exact ev_retI zo_195_24 zr_195
  rw [if_neg c6] at h
  refine ev_if_f (t := 22) zo_195_9 rfl (zcm_neq c6) rfl ?_
  refine ev_iload_n zo_195_12 rfl rfl rfl ?_
  refine ev_i2l zo_195_13 rfl ?_
  refine ev_lconst (x := 0) zo_195_14 (by decide) rfl ?_
  refine ev_lconst (x := 1) zo_195_15 (by decide) rfl ?_
  obtain ⟨q7, hq7, h⟩ := zz_bd h
  refine ev_cS (as := [.long (1 : Int64), .long (0 : Int64), .long x2.toInt64]) (lsn := [.long x2.toInt64, zzU, .long (0 : Int64), zzU, .long (1 : Int64), zzU]) (by omega) zo_195_16 zl_195_88 (by decide) (by rw [zm_136]; rfl) (by unfold zzIn; rw [zm_136]; rfl) (by rw [zm_136]; exact Nat.le_of_ble_eq_true rfl) (Nat.le_of_ble_eq_true rfl) (G_X7_in (by omega) x2.toInt64 (0 : Int64) (1 : Int64) q5.2 q7 hq7) rfl ?_
  show zzEv _ _ _ _ [.int q7.1] _ _
  by_cases c8 : q7.1 = (0 : Int32)
  · rw [if_pos c8] at h
    refine ev_if_f (t := 25) zo_195_19 rfl (zcm_nne c8) rfl ?_
    refine ev_bipush (x := (-2)) zo_195_22 (by decide) rfl ?_
    obtain rfl := Option.some.inj h
    exact ev_retI zo_195_24 zr_195
  rw [if_neg c8] at h
  refine ev_if_t (t := 25) zo_195_19 rfl (zcm_ne c8) ?_
  refine ev_aload_n zo_195_25 rfl rfl rfl rfl ?_
  refine ev_iload_n zo_195_26 rfl rfl rfl ?_
  refine ev_iconst (x := (-1)) zo_195_27 (by decide) rfl ?_
  obtain ⟨q9, hq9, h⟩ := zz_bd h
  refine ev_cV (as := [.int (-1 : Int32), .int x1]) (lsn := [.ref 46, .int x1, .int (-1 : Int32), zzU, zzU]) (by omega) zo_195_28 zl_195_301 (by rw [zm_181]; rfl) (by rw [zm_181]; exact rfl) (by rw [zm_181]; decide) (by unfold zzIn; rw [zm_181]; rfl) (by rw [zm_181]; exact Nat.le_of_ble_eq_true rfl) (Nat.le_of_ble_eq_true rfl) (G_X7_rides (by omega) x1 (-1 : Int32) q7.2 q9 hq9) rfl ?_
  show zzEv _ _ _ _ [] _ _
  refine ev_aload_n zo_195_31 rfl rfl rfl rfl ?_
  refine ev_iconst (x := (-1)) zo_195_32 (by decide) rfl ?_
  refine ev_putI zo_195_33 zf_195_304 (by decide) rfl rfl rfl rfl ?_
  refine ev_aload_n zo_195_36 rfl rfl rfl rfl ?_
  refine ev_aload_n zo_195_37 rfl rfl rfl rfl ?_
  refine ev_getI zo_195_38 zf_195_293 (by decide) (Or.inl rfl) rfl rfl ?_
  refine ev_putI zo_195_41 zf_195_307 (by decide) rfl rfl rfl rfl ?_
  refine ev_iconst (x := 0) zo_195_44 (by decide) rfl ?_
  refine ev_istore_n zo_195_45 rfl (zz_set rfl (by decide) (Nat.le_of_ble_eq_true rfl)) rfl ?_
  show zzEv _ _ _ [.ref 46, .int x1, .int x2, .int (0 : Int32)] _ _ _
  exact G_X7_stop_46 hd 4096 x1 x2 (0 : Int32) (wI (wI q9 46 35 (-1 : Int32)) 46 36 ((wI q9 46 35 (-1 : Int32)).2 46 33)) r h
/-! X7_unlike -/
def F_X7_unlike_4 : Nat → Int32 → Int32 → Int32 → zzJ → Option (Int32 × zzJ)
  | 0, _, _, _, _ => none
  | n + 1, l1, l2, l3, J => (if l3 < (J.2 46 14) then (Option.bind (F_X7_noiseOf l3 J) fun q2 => (if zzIx (((40 : Int32) * l1) + l3) 160 then (if q2.1 = (q2.2.2 65 (((40 : Int32) * l1) + l3).toNatClampNeg) then F_X7_unlike_4 n l1 (l2 ||| ((0 : Int32) <<< (l3 &&& 31))) (l3 + 1) q2.2 else F_X7_unlike_4 n l1 (l2 ||| ((1 : Int32) <<< (l3 &&& 31))) (l3 + 1) q2.2) else none)) else some (l2, J))
set_option maxRecDepth 100000 in
set_option maxHeartbeats 2000000 in
theorem G_X7_unlike_4 {d : Nat} (hd : 94 ≤ d) : ∀ (n : Nat) (l1 : Int32) (l2 : Int32) (l3 : Int32) (J : zzJ) (r : Int32 × zzJ), F_X7_unlike_4 n l1 l2 l3 J = some r → zzEv d 196 4 [.ref 46, .int l1, .int l2, .int l3] [] (zK J) (some (.int r.1), zK r.2) := by
  intro n
  induction n with
  | zero => intro l1 l2 l3 J r h; simp [F_X7_unlike_4] at h
  | succ n ih =>
    intro l1 l2 l3 J r h
    rw [F_X7_unlike_4] at h
    refine ev_iload_n zo_196_4 rfl rfl rfl ?_
    refine ev_aload_n zo_196_5 rfl rfl rfl rfl ?_
    refine ev_getI zo_196_6 zf_196_85 (by decide) (Or.inl rfl) rfl rfl ?_
    by_cases c1 : l3 < (J.2 46 14)
    · rw [if_pos c1] at h
      refine ev_cmp_f (t := 47) zo_196_9 rfl (zcm_nge c1) rfl ?_
      refine ev_iload_n zo_196_12 rfl rfl rfl ?_
      refine ev_aload_n zo_196_13 rfl rfl rfl rfl ?_
      refine ev_iload_n zo_196_14 rfl rfl rfl ?_
      obtain ⟨q2, hq2, h⟩ := zz_bd h
      refine ev_cV (as := [.int l3]) (lsn := [.ref 46, .int l3, zzU, zzU, zzU, zzU]) (by omega) zo_196_15 zl_196_133 (by rw [zm_175]; rfl) (by rw [zm_175]; exact rfl) (by rw [zm_175]; decide) (by unfold zzIn; rw [zm_175]; rfl) (by rw [zm_175]; exact Nat.le_of_ble_eq_true rfl) (Nat.le_of_ble_eq_true rfl) (G_X7_noiseOf (by omega) l3 J q2 hq2) rfl ?_
      show zzEv _ _ _ _ [.int q2.1, .int l2] _ _
      refine ev_aload_n zo_196_18 rfl rfl rfl rfl ?_
      refine ev_getR zo_196_19 zf_196_75 (by decide) rfl rfl rfl rfl ?_
      refine ev_bipush (x := 40) zo_196_22 (by decide) rfl ?_
      refine ev_iload_n zo_196_24 rfl rfl rfl ?_
      refine ev_imul zo_196_25 rfl ?_
      refine ev_iload_n zo_196_26 rfl rfl rfl ?_
      refine ev_iadd zo_196_27 rfl ?_
      obtain ⟨c3, h⟩ := zz_chk h
      refine ev_iald zo_196_28 rfl c3 rfl ?_
      by_cases c4 : q2.1 = (q2.2.2 65 (((40 : Int32) * l1) + l3).toNatClampNeg)
      · rw [if_pos c4] at h
        refine ev_cmp_f (t := 36) zo_196_29 rfl (zcm_nne c4) rfl ?_
        refine ev_iconst (x := 0) zo_196_32 (by decide) rfl ?_
        refine ev_goto (t := 37) zo_196_33 rfl ?_
        refine ev_iload_n zo_196_37 rfl rfl rfl ?_
        refine ev_ishl zo_196_38 rfl ?_
        refine ev_ior zo_196_39 rfl ?_
        refine ev_istore_n zo_196_40 rfl (zz_set rfl (by decide) (Nat.le_of_ble_eq_true rfl)) rfl ?_
        show zzEv _ _ _ [.ref 46, .int l1, .int (l2 ||| ((0 : Int32) <<< (l3 &&& 31))), .int l3] _ _ _
        refine ev_iinc (v := 1) zo_196_41 rfl (by decide) (zz_set rfl (by decide) (Nat.le_of_ble_eq_true rfl)) rfl ?_
        show zzEv _ _ _ [.ref 46, .int l1, .int (l2 ||| ((0 : Int32) <<< (l3 &&& 31))), .int (l3 + 1)] _ _ _
        refine ev_goto (t := 4) zo_196_44 rfl ?_
        exact ih l1 (l2 ||| ((0 : Int32) <<< (l3 &&& 31))) (l3 + 1) q2.2 r h
      rw [if_neg c4] at h
      refine ev_cmp_t (t := 36) zo_196_29 rfl (zcm_ne c4) ?_
      refine ev_iconst (x := 1) zo_196_36 (by decide) rfl ?_
      refine ev_iload_n zo_196_37 rfl rfl rfl ?_
      refine ev_ishl zo_196_38 rfl ?_
      refine ev_ior zo_196_39 rfl ?_
      refine ev_istore_n zo_196_40 rfl (zz_set rfl (by decide) (Nat.le_of_ble_eq_true rfl)) rfl ?_
      show zzEv _ _ _ [.ref 46, .int l1, .int (l2 ||| ((1 : Int32) <<< (l3 &&& 31))), .int l3] _ _ _
      refine ev_iinc (v := 1) zo_196_41 rfl (by decide) (zz_set rfl (by decide) (Nat.le_of_ble_eq_true rfl)) rfl ?_
      show zzEv _ _ _ [.ref 46, .int l1, .int (l2 ||| ((1 : Int32) <<< (l3 &&& 31))), .int (l3 + 1)] _ _ _
      refine ev_goto (t := 4) zo_196_44 rfl ?_
      exact ih l1 (l2 ||| ((1 : Int32) <<< (l3 &&& 31))) (l3 + 1) q2.2 r h
    rw [if_neg c1] at h
    refine ev_cmp_t (t := 47) zo_196_9 rfl (zcm_ge c1) ?_
    refine ev_iload_n zo_196_47 rfl rfl rfl ?_
    obtain rfl := Option.some.inj h
    exact ev_retI zo_196_48 zr_196
def F_X7_unlike (x1 : Int32) (J : zzJ) : Option (Int32 × zzJ) := F_X7_unlike_4 4096 x1 (0 : Int32) (0 : Int32) J
set_option maxRecDepth 100000 in
set_option maxHeartbeats 2000000 in
theorem G_X7_unlike {d : Nat} (hd : 94 ≤ d) (x1 : Int32) (J : zzJ) (r : Int32 × zzJ) (h : F_X7_unlike x1 J = some r) : zzEv d 196 0 [.ref 46, .int x1, zzU, zzU] [] (zK J) (some (.int r.1), zK r.2) := by
  unfold F_X7_unlike at h
  refine ev_iconst (x := 0) zo_196_0 (by decide) rfl ?_
  refine ev_istore_n zo_196_1 rfl (zz_set rfl (by decide) (Nat.le_of_ble_eq_true rfl)) rfl ?_
  show zzEv _ _ _ [.ref 46, .int x1, .int (0 : Int32), zzU] _ _ _
  refine ev_iconst (x := 0) zo_196_2 (by decide) rfl ?_
  refine ev_istore_n zo_196_3 rfl (zz_set rfl (by decide) (Nat.le_of_ble_eq_true rfl)) rfl ?_
  show zzEv _ _ _ [.ref 46, .int x1, .int (0 : Int32), .int (0 : Int32)] _ _ _
  exact G_X7_unlike_4 hd 4096 x1 (0 : Int32) (0 : Int32) J r h
/-! X7_seatsBy -/
def F_X7_seatsBy_59 (kl_13 : Int32 → Int32 → Int32 → Int32 → Int32 → zzJ → Option (Int32 × zzJ)) (l1 : Int32) (l2 : Int32) (l3 : Int32) (l5 : Int32) (t0 : Int32) (t1 : Int32) (J : zzJ) : Option (Int32 × zzJ) := (Option.bind (F_X7_seats l2 l3 J) fun q1 => kl_13 l1 l2 l3 (t1 ||| (t0 <<< (l5 &&& 31))) (l5 + 1) q1)
set_option maxRecDepth 100000 in
set_option maxHeartbeats 2000000 in
theorem G_X7_seatsBy_59 {d : Nat} (kl_13 : Int32 → Int32 → Int32 → Int32 → Int32 → zzJ → Option (Int32 × zzJ)) (hkl_13 : ∀ (l1 : Int32) (l2 : Int32) (l3 : Int32) (l4 : Int32) (l5 : Int32) (J : zzJ) (r : Int32 × zzJ), kl_13 l1 l2 l3 l4 l5 J = some r → zzEv d 197 13 [.ref 46, .int l1, .int l2, .int l3, .int l4, .int l5] [] (zK J) (some (.int r.1), zK r.2)) (hd : 95 ≤ d) : ∀ (l1 : Int32) (l2 : Int32) (l3 : Int32) (l5 : Int32) (t0 : Int32) (t1 : Int32) (J : zzJ) (r : Int32 × zzJ), F_X7_seatsBy_59 kl_13 l1 l2 l3 l5 t0 t1 J = some r → ∀ (lv4 : Value) (hlv4 : lv4.category = 1), zzEv d 197 59 [.ref 46, .int l1, .int l2, .int l3, lv4, .int l5] [.int t0, .int t1] (zK J) (some (.int r.1), zK r.2) := by
  intro l1 l2 l3 l5 t0 t1 J r h lv4 hlv4
  unfold F_X7_seatsBy_59 at h
  refine ev_iload zo_197_59 rfl rfl ?_
  refine ev_ishl zo_197_61 rfl ?_
  refine ev_ior zo_197_62 rfl ?_
  refine ev_istore zo_197_63 (zz_set rfl (by decide) (Nat.le_of_ble_eq_true rfl)) rfl ?_
  show zzEv _ _ _ [.ref 46, .int l1, .int l2, .int l3, .int (t1 ||| (t0 <<< (l5 &&& 31))), .int l5] _ _ _
  refine ev_aload_n zo_197_65 rfl rfl rfl rfl ?_
  refine ev_iload_n zo_197_66 rfl rfl rfl ?_
  refine ev_iload_n zo_197_67 rfl rfl rfl ?_
  obtain ⟨q1, hq1, h⟩ := zz_bd h
  refine ev_cV (as := [.int l3, .int l2]) (lsn := [.ref 46, .int l2, .int l3]) (by omega) zo_197_68 zl_197_129 (by rw [zm_146]; rfl) (by rw [zm_146]; exact rfl) (by rw [zm_146]; decide) (by unfold zzIn; rw [zm_146]; rfl) (by rw [zm_146]; exact Nat.le_of_ble_eq_true rfl) (Nat.le_of_ble_eq_true rfl) (G_X7_seats (by omega) l2 l3 J q1 hq1) rfl ?_
  show zzEv _ _ _ _ [] _ _
  refine ev_iinc (v := 1) zo_197_71 rfl (by decide) (zz_set rfl (by decide) (Nat.le_of_ble_eq_true rfl)) rfl ?_
  show zzEv _ _ _ [.ref 46, .int l1, .int l2, .int l3, .int (t1 ||| (t0 <<< (l5 &&& 31))), .int (l5 + 1)] _ _ _
  refine ev_goto (t := 13) zo_197_74 rfl ?_
  exact hkl_13 l1 l2 l3 (t1 ||| (t0 <<< (l5 &&& 31))) (l5 + 1) q1 r h
def F_X7_seatsBy_37 (kl_13 : Int32 → Int32 → Int32 → Int32 → Int32 → zzJ → Option (Int32 × zzJ)) (l1 : Int32) (l2 : Int32) (l3 : Int32) (l4 : Int32) (l5 : Int32) (J : zzJ) : Option (Int32 × zzJ) := (Option.bind (F_X7_seats l2 l5 J) fun q2 => (Option.bind (F_X7_unlike l1 q2) fun q3 => (if q3.1 = (0 : Int32) then F_X7_seatsBy_59 kl_13 l1 l2 l3 l5 (1 : Int32) l4 q3.2 else F_X7_seatsBy_59 kl_13 l1 l2 l3 l5 (0 : Int32) l4 q3.2)))
set_option maxRecDepth 100000 in
set_option maxHeartbeats 2000000 in
theorem G_X7_seatsBy_37 {d : Nat} (kl_13 : Int32 → Int32 → Int32 → Int32 → Int32 → zzJ → Option (Int32 × zzJ)) (hkl_13 : ∀ (l1 : Int32) (l2 : Int32) (l3 : Int32) (l4 : Int32) (l5 : Int32) (J : zzJ) (r : Int32 × zzJ), kl_13 l1 l2 l3 l4 l5 J = some r → zzEv d 197 13 [.ref 46, .int l1, .int l2, .int l3, .int l4, .int l5] [] (zK J) (some (.int r.1), zK r.2)) (hd : 95 ≤ d) : ∀ (l1 : Int32) (l2 : Int32) (l3 : Int32) (l4 : Int32) (l5 : Int32) (J : zzJ) (r : Int32 × zzJ), F_X7_seatsBy_37 kl_13 l1 l2 l3 l4 l5 J = some r → zzEv d 197 37 [.ref 46, .int l1, .int l2, .int l3, .int l4, .int l5] [] (zK J) (some (.int r.1), zK r.2) := by
  intro l1 l2 l3 l4 l5 J r h
  unfold F_X7_seatsBy_37 at h
  refine ev_aload_n zo_197_37 rfl rfl rfl rfl ?_
  refine ev_iload_n zo_197_38 rfl rfl rfl ?_
  refine ev_iload zo_197_39 rfl rfl ?_
  obtain ⟨q2, hq2, h⟩ := zz_bd h
  refine ev_cV (as := [.int l5, .int l2]) (lsn := [.ref 46, .int l2, .int l5]) (by omega) zo_197_41 zl_197_129 (by rw [zm_146]; rfl) (by rw [zm_146]; exact rfl) (by rw [zm_146]; decide) (by unfold zzIn; rw [zm_146]; rfl) (by rw [zm_146]; exact Nat.le_of_ble_eq_true rfl) (Nat.le_of_ble_eq_true rfl) (G_X7_seats (by omega) l2 l5 J q2 hq2) rfl ?_
  show zzEv _ _ _ _ [] _ _
  refine ev_iload zo_197_44 rfl rfl ?_
  refine ev_aload_n zo_197_46 rfl rfl rfl rfl ?_
  refine ev_iload_n zo_197_47 rfl rfl rfl ?_
  obtain ⟨q3, hq3, h⟩ := zz_bd h
  refine ev_cV (as := [.int l1]) (lsn := [.ref 46, .int l1, zzU, zzU]) (by omega) zo_197_48 zl_197_346 (by rw [zm_196]; rfl) (by rw [zm_196]; exact rfl) (by rw [zm_196]; decide) (by unfold zzIn; rw [zm_196]; rfl) (by rw [zm_196]; exact Nat.le_of_ble_eq_true rfl) (Nat.le_of_ble_eq_true rfl) (G_X7_unlike (by omega) l1 q2 q3 hq3) rfl ?_
  show zzEv _ _ _ _ [.int q3.1, .int l4] _ _
  by_cases c4 : q3.1 = (0 : Int32)
  · rw [if_pos c4] at h
    refine ev_if_f (t := 58) zo_197_51 rfl (zcm_nne c4) rfl ?_
    refine ev_iconst (x := 1) zo_197_54 (by decide) rfl ?_
    refine ev_goto (t := 59) zo_197_55 rfl ?_
    exact G_X7_seatsBy_59 kl_13 hkl_13 hd l1 l2 l3 l5 (1 : Int32) l4 q3.2 r h (.int l4) rfl
  rw [if_neg c4] at h
  refine ev_if_t (t := 58) zo_197_51 rfl (zcm_ne c4) ?_
  refine ev_iconst (x := 0) zo_197_58 (by decide) rfl ?_
  exact G_X7_seatsBy_59 kl_13 hkl_13 hd l1 l2 l3 l5 (0 : Int32) l4 q3.2 r h (.int l4) rfl
def F_X7_seatsBy_13 : Nat → Int32 → Int32 → Int32 → Int32 → Int32 → zzJ → Option (Int32 × zzJ)
  | 0, _, _, _, _, _, _ => none
  | n + 1, l1, l2, l3, l4, l5, J => (if l5 < (24 : Int32) then (if zzIx l5 24 then (if (J.2 54 l5.toNatClampNeg) = (-1 : Int32) then F_X7_seatsBy_37 (F_X7_seatsBy_13 n) l1 l2 l3 l4 l5 J else (if l5 = l3 then F_X7_seatsBy_37 (F_X7_seatsBy_13 n) l1 l2 l3 l4 l5 J else F_X7_seatsBy_13 n l1 l2 l3 l4 (l5 + 1) J)) else none) else some (l4, J))
set_option maxRecDepth 100000 in
set_option maxHeartbeats 2000000 in
theorem G_X7_seatsBy_13 {d : Nat} (hd : 95 ≤ d) : ∀ (n : Nat) (l1 : Int32) (l2 : Int32) (l3 : Int32) (l4 : Int32) (l5 : Int32) (J : zzJ) (r : Int32 × zzJ), F_X7_seatsBy_13 n l1 l2 l3 l4 l5 J = some r → zzEv d 197 13 [.ref 46, .int l1, .int l2, .int l3, .int l4, .int l5] [] (zK J) (some (.int r.1), zK r.2) := by
  intro n
  induction n with
  | zero => intro l1 l2 l3 l4 l5 J r h; simp [F_X7_seatsBy_13] at h
  | succ n ih =>
    intro l1 l2 l3 l4 l5 J r h
    rw [F_X7_seatsBy_13] at h
    refine ev_iload zo_197_13 rfl rfl ?_
    refine ev_bipush (x := 24) zo_197_15 (by decide) rfl ?_
    by_cases c5 : l5 < (24 : Int32)
    · rw [if_pos c5] at h
      refine ev_cmp_f (t := 77) zo_197_17 rfl (zcm_nge c5) rfl ?_
      refine ev_aload_n zo_197_20 rfl rfl rfl rfl ?_
      refine ev_getR zo_197_21 zf_197_38 (by decide) rfl rfl rfl rfl ?_
      refine ev_iload zo_197_24 rfl rfl ?_
      obtain ⟨c6, h⟩ := zz_chk h
      refine ev_iald zo_197_26 rfl c6 rfl ?_
      refine ev_iconst (x := (-1)) zo_197_27 (by decide) rfl ?_
      by_cases c7 : (J.2 54 l5.toNatClampNeg) = (-1 : Int32)
      · rw [if_pos c7] at h
        refine ev_cmp_t (t := 37) zo_197_28 rfl (zcm_eq c7) ?_
        exact G_X7_seatsBy_37 (F_X7_seatsBy_13 n) ih hd l1 l2 l3 l4 l5 J r h
      rw [if_neg c7] at h
      refine ev_cmp_f (t := 37) zo_197_28 rfl (zcm_neq c7) rfl ?_
      refine ev_iload zo_197_31 rfl rfl ?_
      refine ev_iload_n zo_197_33 rfl rfl rfl ?_
      by_cases c8 : l5 = l3
      · rw [if_pos c8] at h
        refine ev_cmp_f (t := 71) zo_197_34 rfl (zcm_nne c8) rfl ?_
        exact G_X7_seatsBy_37 (F_X7_seatsBy_13 n) ih hd l1 l2 l3 l4 l5 J r h
      rw [if_neg c8] at h
      refine ev_cmp_t (t := 71) zo_197_34 rfl (zcm_ne c8) ?_
      refine ev_iinc (v := 1) zo_197_71 rfl (by decide) (zz_set rfl (by decide) (Nat.le_of_ble_eq_true rfl)) rfl ?_
      show zzEv _ _ _ [.ref 46, .int l1, .int l2, .int l3, .int l4, .int (l5 + 1)] _ _ _
      refine ev_goto (t := 13) zo_197_74 rfl ?_
      exact ih l1 l2 l3 l4 (l5 + 1) J r h
    rw [if_neg c5] at h
    refine ev_cmp_t (t := 77) zo_197_17 rfl (zcm_ge c5) ?_
    refine ev_iload zo_197_77 rfl rfl ?_
    obtain rfl := Option.some.inj h
    exact ev_retI zo_197_79 zr_197
def F_X7_seatsBy (x1 : Int32) (x2 : Int32) (J : zzJ) : Option (Int32 × zzJ) := (if zzIx x2 8 then F_X7_seatsBy_13 4096 x1 x2 (J.2 53 x2.toNatClampNeg) (0 : Int32) (0 : Int32) J else none)
set_option maxRecDepth 100000 in
set_option maxHeartbeats 2000000 in
theorem G_X7_seatsBy {d : Nat} (hd : 95 ≤ d) (x1 : Int32) (x2 : Int32) (J : zzJ) (r : Int32 × zzJ) (h : F_X7_seatsBy x1 x2 J = some r) : zzEv d 197 0 [.ref 46, .int x1, .int x2, zzU, zzU, zzU] [] (zK J) (some (.int r.1), zK r.2) := by
  unfold F_X7_seatsBy at h
  refine ev_aload_n zo_197_0 rfl rfl rfl rfl ?_
  refine ev_getR zo_197_1 zf_197_35 (by decide) rfl rfl rfl rfl ?_
  refine ev_iload_n zo_197_4 rfl rfl rfl ?_
  obtain ⟨c9, h⟩ := zz_chk h
  refine ev_iald zo_197_5 rfl c9 rfl ?_
  refine ev_istore_n zo_197_6 rfl (zz_set rfl (by decide) (Nat.le_of_ble_eq_true rfl)) rfl ?_
  show zzEv _ _ _ [.ref 46, .int x1, .int x2, .int (J.2 53 x2.toNatClampNeg), zzU, zzU] _ _ _
  refine ev_iconst (x := 0) zo_197_7 (by decide) rfl ?_
  refine ev_istore zo_197_8 (zz_set rfl (by decide) (Nat.le_of_ble_eq_true rfl)) rfl ?_
  show zzEv _ _ _ [.ref 46, .int x1, .int x2, .int (J.2 53 x2.toNatClampNeg), .int (0 : Int32), zzU] _ _ _
  refine ev_iconst (x := 0) zo_197_10 (by decide) rfl ?_
  refine ev_istore zo_197_11 (zz_set rfl (by decide) (Nat.le_of_ble_eq_true rfl)) rfl ?_
  show zzEv _ _ _ [.ref 46, .int x1, .int x2, .int (J.2 53 x2.toNatClampNeg), .int (0 : Int32), .int (0 : Int32)] _ _ _
  exact G_X7_seatsBy_13 hd 4096 x1 x2 (J.2 53 x2.toNatClampNeg) (0 : Int32) (0 : Int32) J r h
/-! X7_tells -/
def F_X7_tells_261 (kl_223 : Int32 → Int32 → Int32 → Int32 → Int32 → Int32 → Int32 → Int32 → Int32 → zzJ → Option (Int32 × zzJ)) (l1 : Int32) (l2 : Int32) (l4 : Int32) (l5 : Int32) (l6 : Int32) (l9 : Int32) (l11 : Int32) (t0 : Int32) (t1 : Int32) (J : zzJ) : Option (Int32 × zzJ) := kl_223 l1 l2 l4 l5 l6 (t1 ||| t0) (l9 + 1) l11 (l11 + (-1)) J
set_option maxRecDepth 100000 in
set_option maxHeartbeats 2000000 in
theorem G_X7_tells_261 {d : Nat} (kl_223 : Int32 → Int32 → Int32 → Int32 → Int32 → Int32 → Int32 → Int32 → Int32 → zzJ → Option (Int32 × zzJ)) (hkl_223 : ∀ (l1 : Int32) (l2 : Int32) (l4 : Int32) (l5 : Int32) (l6 : Int32) (l8 : Int32) (l9 : Int32) (l10 : Int32) (l11 : Int32) (J : zzJ) (r : Int32 × zzJ), kl_223 l1 l2 l4 l5 l6 l8 l9 l10 l11 J = some r → ∀ (lv3 : Value) (hlv3 : lv3.category = 1), ∀ (lv7 : Value) (hlv7 : lv7.category = 1), zzEv d 198 223 [.ref 46, .int l1, .int l2, lv3, .int l4, .int l5, .int l6, lv7, .int l8, .int l9, .int l10, .int l11] [] (zK J) (some (.int r.1), zK r.2)) (hd : 96 ≤ d) : ∀ (l1 : Int32) (l2 : Int32) (l4 : Int32) (l5 : Int32) (l6 : Int32) (l9 : Int32) (l11 : Int32) (t0 : Int32) (t1 : Int32) (J : zzJ) (r : Int32 × zzJ), F_X7_tells_261 kl_223 l1 l2 l4 l5 l6 l9 l11 t0 t1 J = some r → ∀ (lv3 : Value) (hlv3 : lv3.category = 1), ∀ (lv7 : Value) (hlv7 : lv7.category = 1), ∀ (lv8 : Value) (hlv8 : lv8.category = 1), ∀ (lv10 : Value) (hlv10 : lv10.category = 1), zzEv d 198 261 [.ref 46, .int l1, .int l2, lv3, .int l4, .int l5, .int l6, lv7, lv8, .int l9, lv10, .int l11] [.int t0, .int t1] (zK J) (some (.int r.1), zK r.2) := by
  intro l1 l2 l4 l5 l6 l9 l11 t0 t1 J r h lv3 hlv3 lv7 hlv7 lv8 hlv8 lv10 hlv10
  unfold F_X7_tells_261 at h
  refine ev_ior zo_198_261 rfl ?_
  refine ev_istore zo_198_262 (zz_set (zz_lg (j := 7) rfl hlv7) (by decide) (Nat.le_of_ble_eq_true rfl)) rfl ?_
  show zzEv _ _ _ [.ref 46, .int l1, .int l2, lv3, .int l4, .int l5, .int l6, lv7, .int (t1 ||| t0), .int l9, lv10, .int l11] _ _ _
  refine ev_iinc (v := 1) zo_198_264 rfl (by decide) (zz_set rfl (by decide) (Nat.le_of_ble_eq_true rfl)) rfl ?_
  show zzEv _ _ _ [.ref 46, .int l1, .int l2, lv3, .int l4, .int l5, .int l6, lv7, .int (t1 ||| t0), .int (l9 + 1), lv10, .int l11] _ _ _
  refine ev_iload zo_198_267 rfl rfl ?_
  refine ev_istore zo_198_269 (zz_set rfl (by decide) (Nat.le_of_ble_eq_true rfl)) rfl ?_
  show zzEv _ _ _ [.ref 46, .int l1, .int l2, lv3, .int l4, .int l5, .int l6, lv7, .int (t1 ||| t0), .int (l9 + 1), .int l11, .int l11] _ _ _
  refine ev_iinc (v := (-1)) zo_198_271 rfl (by decide) (zz_set rfl (by decide) (Nat.le_of_ble_eq_true rfl)) rfl ?_
  show zzEv _ _ _ [.ref 46, .int l1, .int l2, lv3, .int l4, .int l5, .int l6, lv7, .int (t1 ||| t0), .int (l9 + 1), .int l11, .int (l11 + (-1))] _ _ _
  refine ev_goto (t := 223) zo_198_274 rfl ?_
  exact hkl_223 l1 l2 l4 l5 l6 (t1 ||| t0) (l9 + 1) l11 (l11 + (-1)) J r h (lv3) hlv3 (lv7) hlv7
def F_X7_tells_223 : Nat → Int32 → Int32 → Int32 → Int32 → Int32 → Int32 → Int32 → Int32 → Int32 → zzJ → Option (Int32 × zzJ)
  | 0, _, _, _, _, _, _, _, _, _, _ => none
  | n + 1, l1, l2, l4, l5, l6, l8, l9, l10, l11, J => (if l11 < (0 : Int32) then (Option.bind (F_X7_lays l5 l4 l6 J) fun q2 => (if l2 = (2 : Int32) then some (l9, q2) else (if l2 = (3 : Int32) then some (l10, q2) else some (l8, q2)))) else (Option.bind (F_X7_lays l5 l4 l11 J) fun q5 => (Option.bind (F_X7_unlike l1 q5) fun q6 => (if q6.1 = (0 : Int32) then (if l5 = (0 : Int32) then F_X7_tells_261 (F_X7_tells_223 n) l1 l2 l4 l5 l6 l9 l11 (0 : Int32) l8 q6.2 else F_X7_tells_261 (F_X7_tells_223 n) l1 l2 l4 l5 l6 l9 l11 ((1 : Int32) <<< (l11 &&& 31)) l8 q6.2) else F_X7_tells_223 n l1 l2 l4 l5 l6 l8 l9 l10 (l11 + (-1)) q6.2))))
set_option maxRecDepth 100000 in
set_option maxHeartbeats 2000000 in
theorem G_X7_tells_223 {d : Nat} (hd : 96 ≤ d) : ∀ (n : Nat) (l1 : Int32) (l2 : Int32) (l4 : Int32) (l5 : Int32) (l6 : Int32) (l8 : Int32) (l9 : Int32) (l10 : Int32) (l11 : Int32) (J : zzJ) (r : Int32 × zzJ), F_X7_tells_223 n l1 l2 l4 l5 l6 l8 l9 l10 l11 J = some r → ∀ (lv3 : Value) (hlv3 : lv3.category = 1), ∀ (lv7 : Value) (hlv7 : lv7.category = 1), zzEv d 198 223 [.ref 46, .int l1, .int l2, lv3, .int l4, .int l5, .int l6, lv7, .int l8, .int l9, .int l10, .int l11] [] (zK J) (some (.int r.1), zK r.2) := by
  intro n
  induction n with
  | zero => intro l1 l2 l4 l5 l6 l8 l9 l10 l11 J r h; simp [F_X7_tells_223] at h
  | succ n ih =>
    intro l1 l2 l4 l5 l6 l8 l9 l10 l11 J r h lv3 hlv3 lv7 hlv7
    rw [F_X7_tells_223] at h
    refine ev_iload zo_198_223 rfl rfl ?_
    by_cases c1 : l11 < (0 : Int32)
    · rw [if_pos c1] at h
      refine ev_if_t (t := 277) zo_198_225 rfl (zcm_lt c1) ?_
      refine ev_aload_n zo_198_277 rfl rfl rfl rfl ?_
      refine ev_iload zo_198_278 rfl rfl ?_
      refine ev_iload zo_198_280 rfl rfl ?_
      refine ev_iload zo_198_282 rfl rfl ?_
      obtain ⟨q2, hq2, h⟩ := zz_bd h
      refine ev_cV (as := [.int l6, .int l4, .int l5]) (lsn := [.ref 46, .int l5, .int l4, .int l6]) (by omega) zo_198_284 zl_198_114 (by rw [zm_144]; rfl) (by rw [zm_144]; exact rfl) (by rw [zm_144]; decide) (by unfold zzIn; rw [zm_144]; rfl) (by rw [zm_144]; exact Nat.le_of_ble_eq_true rfl) (Nat.le_of_ble_eq_true rfl) (G_X7_lays (by omega) l5 l4 l6 J q2 hq2) rfl ?_
      show zzEv _ _ _ _ [] _ _
      refine ev_iload_n zo_198_287 rfl rfl rfl ?_
      refine ev_iconst (x := 2) zo_198_288 (by decide) rfl ?_
      by_cases c3 : l2 = (2 : Int32)
      · rw [if_pos c3] at h
        refine ev_cmp_f (t := 297) zo_198_289 rfl (zcm_nne c3) rfl ?_
        refine ev_iload zo_198_292 rfl rfl ?_
        refine ev_goto (t := 309) zo_198_294 rfl ?_
        obtain rfl := Option.some.inj h
        exact ev_retI zo_198_309 zr_198
      rw [if_neg c3] at h
      refine ev_cmp_t (t := 297) zo_198_289 rfl (zcm_ne c3) ?_
      refine ev_iload_n zo_198_297 rfl rfl rfl ?_
      refine ev_iconst (x := 3) zo_198_298 (by decide) rfl ?_
      by_cases c4 : l2 = (3 : Int32)
      · rw [if_pos c4] at h
        refine ev_cmp_f (t := 307) zo_198_299 rfl (zcm_nne c4) rfl ?_
        refine ev_iload zo_198_302 rfl rfl ?_
        refine ev_goto (t := 309) zo_198_304 rfl ?_
        obtain rfl := Option.some.inj h
        exact ev_retI zo_198_309 zr_198
      rw [if_neg c4] at h
      refine ev_cmp_t (t := 307) zo_198_299 rfl (zcm_ne c4) ?_
      refine ev_iload zo_198_307 rfl rfl ?_
      obtain rfl := Option.some.inj h
      exact ev_retI zo_198_309 zr_198
    rw [if_neg c1] at h
    refine ev_if_f (t := 277) zo_198_225 rfl (zcm_nlt c1) rfl ?_
    refine ev_aload_n zo_198_228 rfl rfl rfl rfl ?_
    refine ev_iload zo_198_229 rfl rfl ?_
    refine ev_iload zo_198_231 rfl rfl ?_
    refine ev_iload zo_198_233 rfl rfl ?_
    obtain ⟨q5, hq5, h⟩ := zz_bd h
    refine ev_cV (as := [.int l11, .int l4, .int l5]) (lsn := [.ref 46, .int l5, .int l4, .int l11]) (by omega) zo_198_235 zl_198_114 (by rw [zm_144]; rfl) (by rw [zm_144]; exact rfl) (by rw [zm_144]; decide) (by unfold zzIn; rw [zm_144]; rfl) (by rw [zm_144]; exact Nat.le_of_ble_eq_true rfl) (Nat.le_of_ble_eq_true rfl) (G_X7_lays (by omega) l5 l4 l11 J q5 hq5) rfl ?_
    show zzEv _ _ _ _ [] _ _
    refine ev_aload_n zo_198_238 rfl rfl rfl rfl ?_
    refine ev_iload_n zo_198_239 rfl rfl rfl ?_
    obtain ⟨q6, hq6, h⟩ := zz_bd h
    refine ev_cV (as := [.int l1]) (lsn := [.ref 46, .int l1, zzU, zzU]) (by omega) zo_198_240 zl_198_346 (by rw [zm_196]; rfl) (by rw [zm_196]; exact rfl) (by rw [zm_196]; decide) (by unfold zzIn; rw [zm_196]; rfl) (by rw [zm_196]; exact Nat.le_of_ble_eq_true rfl) (Nat.le_of_ble_eq_true rfl) (G_X7_unlike (by omega) l1 q5 q6 hq6) rfl ?_
    show zzEv _ _ _ _ [.int q6.1] _ _
    by_cases c7 : q6.1 = (0 : Int32)
    · rw [if_pos c7] at h
      refine ev_if_f (t := 271) zo_198_243 rfl (zcm_nne c7) rfl ?_
      refine ev_iload zo_198_246 rfl rfl ?_
      refine ev_iload zo_198_248 rfl rfl ?_
      by_cases c8 : l5 = (0 : Int32)
      · rw [if_pos c8] at h
        refine ev_if_f (t := 257) zo_198_250 rfl (zcm_nne c8) rfl ?_
        refine ev_iconst (x := 0) zo_198_253 (by decide) rfl ?_
        refine ev_goto (t := 261) zo_198_254 rfl ?_
        exact G_X7_tells_261 (F_X7_tells_223 n) ih hd l1 l2 l4 l5 l6 l9 l11 (0 : Int32) l8 q6.2 r h (lv3) hlv3 (lv7) hlv7 (.int l8) rfl (.int l10) rfl
      rw [if_neg c8] at h
      refine ev_if_t (t := 257) zo_198_250 rfl (zcm_ne c8) ?_
      refine ev_iconst (x := 1) zo_198_257 (by decide) rfl ?_
      refine ev_iload zo_198_258 rfl rfl ?_
      refine ev_ishl zo_198_260 rfl ?_
      exact G_X7_tells_261 (F_X7_tells_223 n) ih hd l1 l2 l4 l5 l6 l9 l11 ((1 : Int32) <<< (l11 &&& 31)) l8 q6.2 r h (lv3) hlv3 (lv7) hlv7 (.int l8) rfl (.int l10) rfl
    rw [if_neg c7] at h
    refine ev_if_t (t := 271) zo_198_243 rfl (zcm_ne c7) ?_
    refine ev_iinc (v := (-1)) zo_198_271 rfl (by decide) (zz_set rfl (by decide) (Nat.le_of_ble_eq_true rfl)) rfl ?_
    show zzEv _ _ _ [.ref 46, .int l1, .int l2, lv3, .int l4, .int l5, .int l6, lv7, .int l8, .int l9, .int l10, .int (l11 + (-1))] _ _ _
    refine ev_goto (t := 223) zo_198_274 rfl ?_
    exact ih l1 l2 l4 l5 l6 l8 l9 l10 (l11 + (-1)) q6.2 r h (lv3) hlv3 (lv7) hlv7
def F_X7_tells_208 (l1 : Int32) (l2 : Int32) (l4 : Int32) (l5 : Int32) (l6 : Int32) (t0 : Int32) (J : zzJ) : Option (Int32 × zzJ) := F_X7_tells_223 4096 l1 l2 l4 l5 l6 (0 : Int32) (0 : Int32) (-1 : Int32) t0 J
set_option maxRecDepth 100000 in
set_option maxHeartbeats 2000000 in
theorem G_X7_tells_208 {d : Nat} (hd : 96 ≤ d) : ∀ (l1 : Int32) (l2 : Int32) (l4 : Int32) (l5 : Int32) (l6 : Int32) (t0 : Int32) (J : zzJ) (r : Int32 × zzJ), F_X7_tells_208 l1 l2 l4 l5 l6 t0 J = some r → ∀ (lv3 : Value) (hlv3 : lv3.category = 1), zzEv d 198 208 [.ref 46, .int l1, .int l2, lv3, .int l4, .int l5, .int l6, zzU, zzU, zzU, zzU, zzU] [.int t0] (zK J) (some (.int r.1), zK r.2) := by
  intro l1 l2 l4 l5 l6 t0 J r h lv3 hlv3
  unfold F_X7_tells_208 at h
  refine ev_istore zo_198_208 (zz_set rfl (by decide) (Nat.le_of_ble_eq_true rfl)) rfl ?_
  show zzEv _ _ _ [.ref 46, .int l1, .int l2, lv3, .int l4, .int l5, .int l6, .int t0, zzU, zzU, zzU, zzU] _ _ _
  refine ev_iconst (x := 0) zo_198_210 (by decide) rfl ?_
  refine ev_istore zo_198_211 (zz_set rfl (by decide) (Nat.le_of_ble_eq_true rfl)) rfl ?_
  show zzEv _ _ _ [.ref 46, .int l1, .int l2, lv3, .int l4, .int l5, .int l6, .int t0, .int (0 : Int32), zzU, zzU, zzU] _ _ _
  refine ev_iconst (x := 0) zo_198_213 (by decide) rfl ?_
  refine ev_istore zo_198_214 (zz_set rfl (by decide) (Nat.le_of_ble_eq_true rfl)) rfl ?_
  show zzEv _ _ _ [.ref 46, .int l1, .int l2, lv3, .int l4, .int l5, .int l6, .int t0, .int (0 : Int32), .int (0 : Int32), zzU, zzU] _ _ _
  refine ev_iconst (x := (-1)) zo_198_216 (by decide) rfl ?_
  refine ev_istore zo_198_217 (zz_set rfl (by decide) (Nat.le_of_ble_eq_true rfl)) rfl ?_
  show zzEv _ _ _ [.ref 46, .int l1, .int l2, lv3, .int l4, .int l5, .int l6, .int t0, .int (0 : Int32), .int (0 : Int32), .int (-1 : Int32), zzU] _ _ _
  refine ev_iload zo_198_219 rfl rfl ?_
  refine ev_istore zo_198_221 (zz_set rfl (by decide) (Nat.le_of_ble_eq_true rfl)) rfl ?_
  show zzEv _ _ _ [.ref 46, .int l1, .int l2, lv3, .int l4, .int l5, .int l6, .int t0, .int (0 : Int32), .int (0 : Int32), .int (-1 : Int32), .int t0] _ _ _
  exact G_X7_tells_223 hd 4096 l1 l2 l4 l5 l6 (0 : Int32) (0 : Int32) (-1 : Int32) t0 J r h (lv3) hlv3 (.int t0) rfl
def F_X7_tells_169 (l1 : Int32) (l2 : Int32) (l4 : Int32) (l5 : Int32) (t0 : Int32) (J : zzJ) : Option (Int32 × zzJ) := (if l5 = (5 : Int32) then F_X7_tells_208 l1 l2 l4 l5 t0 ((J.2 46 3) - (1 : Int32)) J else (if l5 = (0 : Int32) then F_X7_tells_208 l1 l2 l4 l5 t0 (99 : Int32) J else (if l5 = (4 : Int32) then F_X7_tells_208 l1 l2 l4 l5 t0 (5 : Int32) J else F_X7_tells_208 l1 l2 l4 l5 t0 (9 : Int32) J)))
set_option maxRecDepth 100000 in
set_option maxHeartbeats 2000000 in
theorem G_X7_tells_169 {d : Nat} (hd : 96 ≤ d) : ∀ (l1 : Int32) (l2 : Int32) (l4 : Int32) (l5 : Int32) (t0 : Int32) (J : zzJ) (r : Int32 × zzJ), F_X7_tells_169 l1 l2 l4 l5 t0 J = some r → ∀ (lv3 : Value) (hlv3 : lv3.category = 1), zzEv d 198 169 [.ref 46, .int l1, .int l2, lv3, .int l4, .int l5, zzU, zzU, zzU, zzU, zzU, zzU] [.int t0] (zK J) (some (.int r.1), zK r.2) := by
  intro l1 l2 l4 l5 t0 J r h lv3 hlv3
  unfold F_X7_tells_169 at h
  refine ev_istore zo_198_169 (zz_set rfl (by decide) (Nat.le_of_ble_eq_true rfl)) rfl ?_
  show zzEv _ _ _ [.ref 46, .int l1, .int l2, lv3, .int l4, .int l5, .int t0, zzU, zzU, zzU, zzU, zzU] _ _ _
  refine ev_iload zo_198_171 rfl rfl ?_
  refine ev_iconst (x := 5) zo_198_173 (by decide) rfl ?_
  by_cases c9 : l5 = (5 : Int32)
  · rw [if_pos c9] at h
    refine ev_cmp_f (t := 186) zo_198_174 rfl (zcm_nne c9) rfl ?_
    refine ev_aload_n zo_198_177 rfl rfl rfl rfl ?_
    refine ev_getI zo_198_178 zf_198_82 (by decide) (Or.inl rfl) rfl rfl ?_
    refine ev_iconst (x := 1) zo_198_181 (by decide) rfl ?_
    refine ev_isub zo_198_182 rfl ?_
    refine ev_goto (t := 208) zo_198_183 rfl ?_
    exact G_X7_tells_208 hd l1 l2 l4 l5 t0 ((J.2 46 3) - (1 : Int32)) J r h (lv3) hlv3
  rw [if_neg c9] at h
  refine ev_cmp_t (t := 186) zo_198_174 rfl (zcm_ne c9) ?_
  refine ev_iload zo_198_186 rfl rfl ?_
  by_cases c10 : l5 = (0 : Int32)
  · rw [if_pos c10] at h
    refine ev_if_f (t := 196) zo_198_188 rfl (zcm_nne c10) rfl ?_
    refine ev_bipush (x := 99) zo_198_191 (by decide) rfl ?_
    refine ev_goto (t := 208) zo_198_193 rfl ?_
    exact G_X7_tells_208 hd l1 l2 l4 l5 t0 (99 : Int32) J r h (lv3) hlv3
  rw [if_neg c10] at h
  refine ev_if_t (t := 196) zo_198_188 rfl (zcm_ne c10) ?_
  refine ev_iload zo_198_196 rfl rfl ?_
  refine ev_iconst (x := 4) zo_198_198 (by decide) rfl ?_
  by_cases c11 : l5 = (4 : Int32)
  · rw [if_pos c11] at h
    refine ev_cmp_f (t := 206) zo_198_199 rfl (zcm_nne c11) rfl ?_
    refine ev_iconst (x := 5) zo_198_202 (by decide) rfl ?_
    refine ev_goto (t := 208) zo_198_203 rfl ?_
    exact G_X7_tells_208 hd l1 l2 l4 l5 t0 (5 : Int32) J r h (lv3) hlv3
  rw [if_neg c11] at h
  refine ev_cmp_t (t := 206) zo_198_199 rfl (zcm_ne c11) ?_
  refine ev_bipush (x := 9) zo_198_206 (by decide) rfl ?_
  exact G_X7_tells_208 hd l1 l2 l4 l5 t0 (9 : Int32) J r h (lv3) hlv3
def F_X7_tells_146 (l1 : Int32) (l2 : Int32) (l4 : Int32) (t0 : Int32) (J : zzJ) : Option (Int32 × zzJ) := (if t0 = (5 : Int32) then F_X7_tells_169 l1 l2 l4 t0 (J.2 46 4) J else (Option.bind (F_X7_told l4 t0 J) fun q13 => F_X7_tells_169 l1 l2 l4 t0 q13.1 q13.2))
set_option maxRecDepth 100000 in
set_option maxHeartbeats 2000000 in
theorem G_X7_tells_146 {d : Nat} (hd : 96 ≤ d) : ∀ (l1 : Int32) (l2 : Int32) (l4 : Int32) (t0 : Int32) (J : zzJ) (r : Int32 × zzJ), F_X7_tells_146 l1 l2 l4 t0 J = some r → ∀ (lv3 : Value) (hlv3 : lv3.category = 1), zzEv d 198 146 [.ref 46, .int l1, .int l2, lv3, .int l4, zzU, zzU, zzU, zzU, zzU, zzU, zzU] [.int t0] (zK J) (some (.int r.1), zK r.2) := by
  intro l1 l2 l4 t0 J r h lv3 hlv3
  unfold F_X7_tells_146 at h
  refine ev_istore zo_198_146 (zz_set rfl (by decide) (Nat.le_of_ble_eq_true rfl)) rfl ?_
  show zzEv _ _ _ [.ref 46, .int l1, .int l2, lv3, .int l4, .int t0, zzU, zzU, zzU, zzU, zzU, zzU] _ _ _
  refine ev_iload zo_198_148 rfl rfl ?_
  refine ev_iconst (x := 5) zo_198_150 (by decide) rfl ?_
  by_cases c12 : t0 = (5 : Int32)
  · rw [if_pos c12] at h
    refine ev_cmp_f (t := 161) zo_198_151 rfl (zcm_nne c12) rfl ?_
    refine ev_aload_n zo_198_154 rfl rfl rfl rfl ?_
    refine ev_getI zo_198_155 zf_198_121 (by decide) (Or.inl rfl) rfl rfl ?_
    refine ev_goto (t := 169) zo_198_158 rfl ?_
    exact G_X7_tells_169 hd l1 l2 l4 t0 (J.2 46 4) J r h (lv3) hlv3
  rw [if_neg c12] at h
  refine ev_cmp_t (t := 161) zo_198_151 rfl (zcm_ne c12) ?_
  refine ev_aload_n zo_198_161 rfl rfl rfl rfl ?_
  refine ev_iload zo_198_162 rfl rfl ?_
  refine ev_iload zo_198_164 rfl rfl ?_
  obtain ⟨q13, hq13, h⟩ := zz_bd h
  refine ev_cV (as := [.int t0, .int l4]) (lsn := [.ref 46, .int l4, .int t0]) (by omega) zo_198_166 zl_198_110 (by rw [zm_148]; rfl) (by rw [zm_148]; exact rfl) (by rw [zm_148]; decide) (by unfold zzIn; rw [zm_148]; rfl) (by rw [zm_148]; exact Nat.le_of_ble_eq_true rfl) (Nat.le_of_ble_eq_true rfl) (G_X7_told (by omega) l4 t0 J q13 hq13) rfl ?_
  show zzEv _ _ _ _ [.int q13.1] _ _
  exact G_X7_tells_169 hd l1 l2 l4 t0 q13.1 q13.2 r h (lv3) hlv3
def F_X7_tells_57 (l1 : Int32) (l2 : Int32) (J : zzJ) : Option (Int32 × zzJ) := (if zzIx l1 4 then (if (J.2 62 l1.toNatClampNeg) = (0 : Int32) then some ((-11 : Int32), J) else (if zzIx l1 4 then (if (J.2 64 l1.toNatClampNeg) = (J.2 46 14) then (if l2 = (0 : Int32) then (Option.bind (F_X7_unlike l1 J) fun q24 => some (q24.1, q24.2)) else (if (29 : Int32) < l2 then (Option.bind (F_X7_seatsBy l1 (l2 - (30 : Int32)) J) fun q23 => some (q23.1, q23.2)) else (if l2 = (1 : Int32) then F_X7_tells_146 l1 l2 (zRem l2 (10 : Int32)) (5 : Int32) J else (if l2 < (4 : Int32) then F_X7_tells_146 l1 l2 (zRem l2 (10 : Int32)) (0 : Int32) J else (if l2 < (20 : Int32) then F_X7_tells_146 l1 l2 (zRem l2 (10 : Int32)) (4 : Int32) J else F_X7_tells_146 l1 l2 (zRem l2 (10 : Int32)) (2 : Int32) J))))) else some ((-2 : Int32), J)) else none)) else none)
set_option maxRecDepth 100000 in
set_option maxHeartbeats 2000000 in
theorem G_X7_tells_57 {d : Nat} (hd : 96 ≤ d) : ∀ (l1 : Int32) (l2 : Int32) (J : zzJ) (r : Int32 × zzJ), F_X7_tells_57 l1 l2 J = some r → ∀ (lv3 : Value) (hlv3 : lv3.category = 1), zzEv d 198 57 [.ref 46, .int l1, .int l2, lv3, zzU, zzU, zzU, zzU, zzU, zzU, zzU, zzU] [] (zK J) (some (.int r.1), zK r.2) := by
  intro l1 l2 J r h lv3 hlv3
  unfold F_X7_tells_57 at h
  refine ev_aload_n zo_198_57 rfl rfl rfl rfl ?_
  refine ev_getR zo_198_58 zf_198_65 (by decide) rfl rfl rfl rfl ?_
  refine ev_iload_n zo_198_61 rfl rfl rfl ?_
  obtain ⟨c14, h⟩ := zz_chk h
  refine ev_bald zo_198_62 rfl c14 rfl ?_
  by_cases c15 : (J.2 62 l1.toNatClampNeg) = (0 : Int32)
  · rw [if_pos c15] at h
    refine ev_if_f (t := 69) zo_198_63 rfl (zcm_nne c15) rfl ?_
    refine ev_bipush (x := (-11)) zo_198_66 (by decide) rfl ?_
    obtain rfl := Option.some.inj h
    exact ev_retI zo_198_68 zr_198
  rw [if_neg c15] at h
  refine ev_if_t (t := 69) zo_198_63 rfl (zcm_ne c15) ?_
  refine ev_aload_n zo_198_69 rfl rfl rfl rfl ?_
  refine ev_getR zo_198_70 zf_198_72 (by decide) rfl rfl rfl rfl ?_
  refine ev_iload_n zo_198_73 rfl rfl rfl ?_
  obtain ⟨c16, h⟩ := zz_chk h
  refine ev_iald zo_198_74 rfl c16 rfl ?_
  refine ev_aload_n zo_198_75 rfl rfl rfl rfl ?_
  refine ev_getI zo_198_76 zf_198_85 (by decide) (Or.inl rfl) rfl rfl ?_
  by_cases c17 : (J.2 64 l1.toNatClampNeg) = (J.2 46 14)
  · rw [if_pos c17] at h
    refine ev_cmp_t (t := 85) zo_198_79 rfl (zcm_eq c17) ?_
    refine ev_iload_n zo_198_85 rfl rfl rfl ?_
    by_cases c18 : l2 = (0 : Int32)
    · rw [if_pos c18] at h
      refine ev_if_f (t := 95) zo_198_86 rfl (zcm_nne c18) rfl ?_
      refine ev_aload_n zo_198_89 rfl rfl rfl rfl ?_
      refine ev_iload_n zo_198_90 rfl rfl rfl ?_
      obtain ⟨q24, hq24, h⟩ := zz_bd h
      refine ev_cV (as := [.int l1]) (lsn := [.ref 46, .int l1, zzU, zzU]) (by omega) zo_198_91 zl_198_346 (by rw [zm_196]; rfl) (by rw [zm_196]; exact rfl) (by rw [zm_196]; decide) (by unfold zzIn; rw [zm_196]; rfl) (by rw [zm_196]; exact Nat.le_of_ble_eq_true rfl) (Nat.le_of_ble_eq_true rfl) (G_X7_unlike (by omega) l1 J q24 hq24) rfl ?_
      show zzEv _ _ _ _ [.int q24.1] _ _
      obtain rfl := Option.some.inj h
      exact ev_retI zo_198_94 zr_198
    rw [if_neg c18] at h
    refine ev_if_t (t := 95) zo_198_86 rfl (zcm_ne c18) ?_
    refine ev_iload_n zo_198_95 rfl rfl rfl ?_
    refine ev_bipush (x := 29) zo_198_96 (by decide) rfl ?_
    by_cases c19 : (29 : Int32) < l2
    · rw [if_pos c19] at h
      refine ev_cmp_f (t := 111) zo_198_98 rfl (zcm_nle c19) rfl ?_
      refine ev_aload_n zo_198_101 rfl rfl rfl rfl ?_
      refine ev_iload_n zo_198_102 rfl rfl rfl ?_
      refine ev_iload_n zo_198_103 rfl rfl rfl ?_
      refine ev_bipush (x := 30) zo_198_104 (by decide) rfl ?_
      refine ev_isub zo_198_106 rfl ?_
      obtain ⟨q23, hq23, h⟩ := zz_bd h
      refine ev_cV (as := [.int (l2 - (30 : Int32)), .int l1]) (lsn := [.ref 46, .int l1, .int (l2 - (30 : Int32)), zzU, zzU, zzU]) (by omega) zo_198_107 zl_198_351 (by rw [zm_197]; rfl) (by rw [zm_197]; exact rfl) (by rw [zm_197]; decide) (by unfold zzIn; rw [zm_197]; rfl) (by rw [zm_197]; exact Nat.le_of_ble_eq_true rfl) (Nat.le_of_ble_eq_true rfl) (G_X7_seatsBy (by omega) l1 (l2 - (30 : Int32)) J q23 hq23) rfl ?_
      show zzEv _ _ _ _ [.int q23.1] _ _
      obtain rfl := Option.some.inj h
      exact ev_retI zo_198_110 zr_198
    rw [if_neg c19] at h
    refine ev_cmp_t (t := 111) zo_198_98 rfl (zcm_le c19) ?_
    refine ev_iload_n zo_198_111 rfl rfl rfl ?_
    refine ev_bipush (x := 10) zo_198_112 (by decide) rfl ?_
    refine ev_irem zo_198_114 (by decide) rfl ?_
    refine ev_istore zo_198_115 (zz_set (zz_lg (j := 3) rfl hlv3) (by decide) (Nat.le_of_ble_eq_true rfl)) rfl ?_
    show zzEv _ _ _ [.ref 46, .int l1, .int l2, lv3, .int (zRem l2 (10 : Int32)), zzU, zzU, zzU, zzU, zzU, zzU, zzU] _ _ _
    refine ev_iload_n zo_198_117 rfl rfl rfl ?_
    refine ev_iconst (x := 1) zo_198_118 (by decide) rfl ?_
    by_cases c20 : l2 = (1 : Int32)
    · rw [if_pos c20] at h
      refine ev_cmp_f (t := 126) zo_198_119 rfl (zcm_nne c20) rfl ?_
      refine ev_iconst (x := 5) zo_198_122 (by decide) rfl ?_
      refine ev_goto (t := 146) zo_198_123 rfl ?_
      exact G_X7_tells_146 hd l1 l2 (zRem l2 (10 : Int32)) (5 : Int32) J r h (lv3) hlv3
    rw [if_neg c20] at h
    refine ev_cmp_t (t := 126) zo_198_119 rfl (zcm_ne c20) ?_
    refine ev_iload_n zo_198_126 rfl rfl rfl ?_
    refine ev_iconst (x := 4) zo_198_127 (by decide) rfl ?_
    by_cases c21 : l2 < (4 : Int32)
    · rw [if_pos c21] at h
      refine ev_cmp_f (t := 135) zo_198_128 rfl (zcm_nge c21) rfl ?_
      refine ev_iconst (x := 0) zo_198_131 (by decide) rfl ?_
      refine ev_goto (t := 146) zo_198_132 rfl ?_
      exact G_X7_tells_146 hd l1 l2 (zRem l2 (10 : Int32)) (0 : Int32) J r h (lv3) hlv3
    rw [if_neg c21] at h
    refine ev_cmp_t (t := 135) zo_198_128 rfl (zcm_ge c21) ?_
    refine ev_iload_n zo_198_135 rfl rfl rfl ?_
    refine ev_bipush (x := 20) zo_198_136 (by decide) rfl ?_
    by_cases c22 : l2 < (20 : Int32)
    · rw [if_pos c22] at h
      refine ev_cmp_f (t := 145) zo_198_138 rfl (zcm_nge c22) rfl ?_
      refine ev_iconst (x := 4) zo_198_141 (by decide) rfl ?_
      refine ev_goto (t := 146) zo_198_142 rfl ?_
      exact G_X7_tells_146 hd l1 l2 (zRem l2 (10 : Int32)) (4 : Int32) J r h (lv3) hlv3
    rw [if_neg c22] at h
    refine ev_cmp_t (t := 145) zo_198_138 rfl (zcm_ge c22) ?_
    refine ev_iconst (x := 2) zo_198_145 (by decide) rfl ?_
    exact G_X7_tells_146 hd l1 l2 (zRem l2 (10 : Int32)) (2 : Int32) J r h (lv3) hlv3
  rw [if_neg c17] at h
  refine ev_cmp_f (t := 85) zo_198_79 rfl (zcm_neq c17) rfl ?_
  refine ev_bipush (x := (-2)) zo_198_82 (by decide) rfl ?_
  obtain rfl := Option.some.inj h
  exact ev_retI zo_198_84 zr_198
def F_X7_tells_30 (l1 : Int32) (l2 : Int32) (t0 : Int32) (J : zzJ) : Option (Int32 × zzJ) := (Option.bind (F_X7_isSheet l1 J) fun q25 => (if q25.1 = (0 : Int32) then some ((-2 : Int32), q25.2) else (Option.bind (F_X7_in l2.toInt64 (0 : Int64) (3 : Int64) q25.2) fun q27 => (if q27.1 = (0 : Int32) then (if t0 = (0 : Int32) then some ((-2 : Int32), q27.2) else F_X7_tells_57 l1 l2 q27.2) else F_X7_tells_57 l1 l2 q27.2))))
set_option maxRecDepth 100000 in
set_option maxHeartbeats 2000000 in
theorem G_X7_tells_30 {d : Nat} (hd : 96 ≤ d) : ∀ (l1 : Int32) (l2 : Int32) (t0 : Int32) (J : zzJ) (r : Int32 × zzJ), F_X7_tells_30 l1 l2 t0 J = some r → zzEv d 198 30 [.ref 46, .int l1, .int l2, zzU, zzU, zzU, zzU, zzU, zzU, zzU, zzU, zzU] [.int t0] (zK J) (some (.int r.1), zK r.2) := by
  intro l1 l2 t0 J r h
  unfold F_X7_tells_30 at h
  refine ev_istore_n zo_198_30 rfl (zz_set rfl (by decide) (Nat.le_of_ble_eq_true rfl)) rfl ?_
  show zzEv _ _ _ [.ref 46, .int l1, .int l2, .int t0, zzU, zzU, zzU, zzU, zzU, zzU, zzU, zzU] _ _ _
  refine ev_iload_n zo_198_31 rfl rfl rfl ?_
  obtain ⟨q25, hq25, h⟩ := zz_bd h
  refine ev_cS (as := [.int l1]) (lsn := [.int l1]) (by omega) zo_198_32 zl_198_334 (by decide) (by rw [zm_206]; rfl) (by unfold zzIn; rw [zm_206]; rfl) (by rw [zm_206]; exact Nat.le_of_ble_eq_true rfl) (Nat.le_of_ble_eq_true rfl) (G_X7_isSheet (by omega) l1 J q25 hq25) rfl ?_
  show zzEv _ _ _ _ [.int q25.1] _ _
  by_cases c26 : q25.1 = (0 : Int32)
  · rw [if_pos c26] at h
    refine ev_if_t (t := 54) zo_198_35 rfl (zcm_eq c26) ?_
    refine ev_bipush (x := (-2)) zo_198_54 (by decide) rfl ?_
    obtain rfl := Option.some.inj h
    exact ev_retI zo_198_56 zr_198
  rw [if_neg c26] at h
  refine ev_if_f (t := 54) zo_198_35 rfl (zcm_neq c26) rfl ?_
  refine ev_iload_n zo_198_38 rfl rfl rfl ?_
  refine ev_i2l zo_198_39 rfl ?_
  refine ev_lconst (x := 0) zo_198_40 (by decide) rfl ?_
  refine ev_ldc2 zo_198_41 zc_198_104 rfl ?_
  obtain ⟨q27, hq27, h⟩ := zz_bd h
  refine ev_cS (as := [.long (3 : Int64), .long (0 : Int64), .long l2.toInt64]) (lsn := [.long l2.toInt64, zzU, .long (0 : Int64), zzU, .long (3 : Int64), zzU]) (by omega) zo_198_44 zl_198_88 (by decide) (by rw [zm_136]; rfl) (by unfold zzIn; rw [zm_136]; rfl) (by rw [zm_136]; exact Nat.le_of_ble_eq_true rfl) (Nat.le_of_ble_eq_true rfl) (G_X7_in (by omega) l2.toInt64 (0 : Int64) (3 : Int64) q25.2 q27 hq27) rfl ?_
  show zzEv _ _ _ _ [.int q27.1] _ _
  by_cases c28 : q27.1 = (0 : Int32)
  · rw [if_pos c28] at h
    refine ev_if_f (t := 57) zo_198_47 rfl (zcm_nne c28) rfl ?_
    refine ev_iload_n zo_198_50 rfl rfl rfl ?_
    by_cases c29 : t0 = (0 : Int32)
    · rw [if_pos c29] at h
      refine ev_if_f (t := 57) zo_198_51 rfl (zcm_nne c29) rfl ?_
      refine ev_bipush (x := (-2)) zo_198_54 (by decide) rfl ?_
      obtain rfl := Option.some.inj h
      exact ev_retI zo_198_56 zr_198
    rw [if_neg c29] at h
    refine ev_if_t (t := 57) zo_198_51 rfl (zcm_ne c29) ?_
    exact G_X7_tells_57 hd l1 l2 q27.2 r h (.int t0) rfl
  rw [if_neg c28] at h
  refine ev_if_t (t := 57) zo_198_47 rfl (zcm_ne c28) ?_
  exact G_X7_tells_57 hd l1 l2 q27.2 r h (.int t0) rfl
def F_X7_tells_29 (l1 : Int32) (l2 : Int32) (J : zzJ) : Option (Int32 × zzJ) := F_X7_tells_30 l1 l2 (0 : Int32) J
set_option maxRecDepth 100000 in
set_option maxHeartbeats 2000000 in
theorem G_X7_tells_29 {d : Nat} (hd : 96 ≤ d) : ∀ (l1 : Int32) (l2 : Int32) (J : zzJ) (r : Int32 × zzJ), F_X7_tells_29 l1 l2 J = some r → zzEv d 198 29 [.ref 46, .int l1, .int l2, zzU, zzU, zzU, zzU, zzU, zzU, zzU, zzU, zzU] [] (zK J) (some (.int r.1), zK r.2) := by
  intro l1 l2 J r h
  unfold F_X7_tells_29 at h
  refine ev_iconst (x := 0) zo_198_29 (by decide) rfl ?_
  exact G_X7_tells_30 hd l1 l2 (0 : Int32) J r h
def F_X7_tells (x1 : Int32) (x2 : Int32) (J : zzJ) : Option (Int32 × zzJ) := (Option.bind (F_X7_in x2.toInt64 (10 : Int64) (39 : Int64) J) fun q30 => (if q30.1 = (0 : Int32) then F_X7_tells_29 x1 x2 q30.2 else (Option.bind (F_X7_isOne (zRem x2 (10 : Int32)) q30.2) fun q32 => (if q32.1 = (0 : Int32) then F_X7_tells_29 x1 x2 q32.2 else F_X7_tells_30 x1 x2 (1 : Int32) q32.2))))
set_option maxRecDepth 100000 in
set_option maxHeartbeats 2000000 in
theorem G_X7_tells {d : Nat} (hd : 96 ≤ d) (x1 : Int32) (x2 : Int32) (J : zzJ) (r : Int32 × zzJ) (h : F_X7_tells x1 x2 J = some r) : zzEv d 198 0 [.ref 46, .int x1, .int x2, zzU, zzU, zzU, zzU, zzU, zzU, zzU, zzU, zzU] [] (zK J) (some (.int r.1), zK r.2) := by
  unfold F_X7_tells at h
  refine ev_iload_n zo_198_0 rfl rfl rfl ?_
  refine ev_i2l zo_198_1 rfl ?_
  refine ev_ldc2 zo_198_2 zc_198_181 rfl ?_
  refine ev_ldc2 zo_198_5 zc_198_349 rfl ?_
  obtain ⟨q30, hq30, h⟩ := zz_bd h
  refine ev_cS (as := [.long (39 : Int64), .long (10 : Int64), .long x2.toInt64]) (lsn := [.long x2.toInt64, zzU, .long (10 : Int64), zzU, .long (39 : Int64), zzU]) (by omega) zo_198_8 zl_198_88 (by decide) (by rw [zm_136]; rfl) (by unfold zzIn; rw [zm_136]; rfl) (by rw [zm_136]; exact Nat.le_of_ble_eq_true rfl) (Nat.le_of_ble_eq_true rfl) (G_X7_in (by omega) x2.toInt64 (10 : Int64) (39 : Int64) J q30 hq30) rfl ?_
  show zzEv _ _ _ _ [.int q30.1] _ _
  by_cases c31 : q30.1 = (0 : Int32)
  · rw [if_pos c31] at h
    refine ev_if_t (t := 29) zo_198_11 rfl (zcm_eq c31) ?_
    exact G_X7_tells_29 hd x1 x2 q30.2 r h
  rw [if_neg c31] at h
  refine ev_if_f (t := 29) zo_198_11 rfl (zcm_neq c31) rfl ?_
  refine ev_aload_n zo_198_14 rfl rfl rfl rfl ?_
  refine ev_iload_n zo_198_15 rfl rfl rfl ?_
  refine ev_bipush (x := 10) zo_198_16 (by decide) rfl ?_
  refine ev_irem zo_198_18 (by decide) rfl ?_
  obtain ⟨q32, hq32, h⟩ := zz_bd h
  refine ev_cV (as := [.int (zRem x2 (10 : Int32))]) (lsn := [.ref 46, .int (zRem x2 (10 : Int32))]) (by omega) zo_198_19 zl_198_94 (by rw [zm_140]; rfl) (by rw [zm_140]; exact rfl) (by rw [zm_140]; decide) (by unfold zzIn; rw [zm_140]; rfl) (by rw [zm_140]; exact Nat.le_of_ble_eq_true rfl) (Nat.le_of_ble_eq_true rfl) (G_X7_isOne (by omega) (zRem x2 (10 : Int32)) q30.2 q32 hq32) rfl ?_
  show zzEv _ _ _ _ [.int q32.1] _ _
  by_cases c33 : q32.1 = (0 : Int32)
  · rw [if_pos c33] at h
    refine ev_if_t (t := 29) zo_198_22 rfl (zcm_eq c33) ?_
    exact G_X7_tells_29 hd x1 x2 q32.2 r h
  rw [if_neg c33] at h
  refine ev_if_f (t := 29) zo_198_22 rfl (zcm_neq c33) rfl ?_
  refine ev_iconst (x := 1) zo_198_25 (by decide) rfl ?_
  refine ev_goto (t := 30) zo_198_26 rfl ?_
  exact G_X7_tells_30 hd x1 x2 (1 : Int32) q32.2 r h
