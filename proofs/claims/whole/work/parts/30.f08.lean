/-! the methods as functions, and that they are (written by wip/whole/gen2.py) -/
/-! X7_term -/
def F_X7_term_5 (k_X7_atom : zzJ → Option (Int32 × zzJ)) (k_X7_not : zzJ → Option (Int32 × zzJ)) (k_X7_either : zzJ → Option (Int32 × zzJ)) : Nat → Int32 → zzJ → Option (Int32 × zzJ)
  | 0, _, _ => none
  | n + 1, l1, J => (Option.bind (F_X7_isSign (42 : Int32) J) fun q1 => (if q1.1 = (0 : Int32) then some (l1, q1.2) else (Option.bind (F_X7_next q1.2) fun q3 => (Option.bind (F_X7_atom k_X7_atom k_X7_not k_X7_either q3) fun q4 => F_X7_term_5 k_X7_atom k_X7_not k_X7_either n (l1 * q4.1) q4.2))))
set_option maxRecDepth 100000 in
set_option maxHeartbeats 2000000 in
theorem G_X7_term_5 {D d : Nat} (k_X7_atom : zzJ → Option (Int32 × zzJ)) (k_X7_not : zzJ → Option (Int32 × zzJ)) (k_X7_either : zzJ → Option (Int32 × zzJ)) (hk_X7_atom : ∀ dd, D ≤ dd → ∀ (J : zzJ) (q : Int32 × zzJ), k_X7_atom J = some q → zzEv dd 159 0 [.ref 46, zzU] [] (zK J) (some (.int q.1), zK q.2)) (hk_X7_not : ∀ dd, D ≤ dd → ∀ (J : zzJ) (q : Int32 × zzJ), k_X7_not J = some q → zzEv dd 162 0 [.ref 46, zzU, zzU, zzU] [] (zK J) (some (.int q.1), zK q.2)) (hk_X7_either : ∀ dd, D ≤ dd → ∀ (J : zzJ) (q : Int32 × zzJ), k_X7_either J = some q → zzEv dd 164 0 [.ref 46, zzU, zzU] [] (zK J) (some (.int q.1), zK q.2)) (hd : D + 5 ≤ d) : ∀ (n : Nat) (l1 : Int32) (J : zzJ) (r : Int32 × zzJ), F_X7_term_5 k_X7_atom k_X7_not k_X7_either n l1 J = some r → zzEv d 160 5 [.ref 46, .int l1] [] (zK J) (some (.int r.1), zK r.2) := by
  intro n
  induction n with
  | zero => intro l1 J r h; simp [F_X7_term_5] at h
  | succ n ih =>
    intro l1 J r h
    rw [F_X7_term_5] at h
    refine ev_aload_n zo_160_5 rfl rfl rfl rfl ?_
    refine ev_bipush (x := 42) zo_160_6 (by decide) rfl ?_
    obtain ⟨q1, hq1, h⟩ := zz_bd h
    refine ev_cV (as := [.int (42 : Int32)]) (lsn := [.ref 46, .int (42 : Int32)]) (by omega) zo_160_8 zl_160_225 (by rw [zm_156]; rfl) (by rw [zm_156]; exact rfl) (by rw [zm_156]; decide) (by unfold zzIn; rw [zm_156]; rfl) (by rw [zm_156]; exact Nat.le_of_ble_eq_true rfl) (Nat.le_of_ble_eq_true rfl) (G_X7_isSign (by omega) (42 : Int32) J q1 hq1) rfl ?_
    show zzEv _ _ _ _ [.int q1.1] _ _
    by_cases c2 : q1.1 = (0 : Int32)
    · rw [if_pos c2] at h
      refine ev_if_t (t := 28) zo_160_11 rfl (zcm_eq c2) ?_
      refine ev_iload_n zo_160_28 rfl rfl rfl ?_
      obtain rfl := Option.some.inj h
      exact ev_retI zo_160_29 zr_160
    rw [if_neg c2] at h
    refine ev_if_f (t := 28) zo_160_11 rfl (zcm_neq c2) rfl ?_
    refine ev_aload_n zo_160_14 rfl rfl rfl rfl ?_
    obtain ⟨q3, hq3, h⟩ := zz_bd h
    refine ev_cV (as := []) (lsn := [.ref 46, zzU, zzU]) (by omega) zo_160_15 zl_160_200 (by rw [zm_152]; rfl) (by rw [zm_152]; exact rfl) (by rw [zm_152]; decide) (by unfold zzIn; rw [zm_152]; rfl) (by rw [zm_152]; exact Nat.le_of_ble_eq_true rfl) (Nat.le_of_ble_eq_true rfl) (G_X7_next (by omega) q1.2 q3 hq3) rfl ?_
    show zzEv _ _ _ _ [] _ _
    refine ev_iload_n zo_160_18 rfl rfl rfl ?_
    refine ev_aload_n zo_160_19 rfl rfl rfl rfl ?_
    obtain ⟨q4, hq4, h⟩ := zz_bd h
    refine ev_cV (as := []) (lsn := [.ref 46, zzU]) (by omega) zo_160_20 zl_160_232 (by rw [zm_159]; rfl) (by rw [zm_159]; exact rfl) (by rw [zm_159]; decide) (by unfold zzIn; rw [zm_159]; rfl) (by rw [zm_159]; exact Nat.le_of_ble_eq_true rfl) (Nat.le_of_ble_eq_true rfl) (G_X7_atom k_X7_atom k_X7_not k_X7_either hk_X7_atom hk_X7_not hk_X7_either (by omega) q3 q4 hq4) rfl ?_
    show zzEv _ _ _ _ [.int q4.1, .int l1] _ _
    refine ev_imul zo_160_23 rfl ?_
    refine ev_istore_n zo_160_24 rfl (zz_set rfl (by decide) (Nat.le_of_ble_eq_true rfl)) rfl ?_
    show zzEv _ _ _ [.ref 46, .int (l1 * q4.1)] _ _ _
    refine ev_goto (t := 5) zo_160_25 rfl ?_
    exact ih (l1 * q4.1) q4.2 r h
def F_X7_term (k_X7_atom : zzJ → Option (Int32 × zzJ)) (k_X7_not : zzJ → Option (Int32 × zzJ)) (k_X7_either : zzJ → Option (Int32 × zzJ)) (J : zzJ) : Option (Int32 × zzJ) := (Option.bind (F_X7_atom k_X7_atom k_X7_not k_X7_either J) fun q5 => F_X7_term_5 k_X7_atom k_X7_not k_X7_either 4096 q5.1 q5.2)
set_option maxRecDepth 100000 in
set_option maxHeartbeats 2000000 in
theorem G_X7_term {D d : Nat} (k_X7_atom : zzJ → Option (Int32 × zzJ)) (k_X7_not : zzJ → Option (Int32 × zzJ)) (k_X7_either : zzJ → Option (Int32 × zzJ)) (hk_X7_atom : ∀ dd, D ≤ dd → ∀ (J : zzJ) (q : Int32 × zzJ), k_X7_atom J = some q → zzEv dd 159 0 [.ref 46, zzU] [] (zK J) (some (.int q.1), zK q.2)) (hk_X7_not : ∀ dd, D ≤ dd → ∀ (J : zzJ) (q : Int32 × zzJ), k_X7_not J = some q → zzEv dd 162 0 [.ref 46, zzU, zzU, zzU] [] (zK J) (some (.int q.1), zK q.2)) (hk_X7_either : ∀ dd, D ≤ dd → ∀ (J : zzJ) (q : Int32 × zzJ), k_X7_either J = some q → zzEv dd 164 0 [.ref 46, zzU, zzU] [] (zK J) (some (.int q.1), zK q.2)) (hd : D + 5 ≤ d) (J : zzJ) (r : Int32 × zzJ) (h : F_X7_term k_X7_atom k_X7_not k_X7_either J = some r) : zzEv d 160 0 [.ref 46, zzU] [] (zK J) (some (.int r.1), zK r.2) := by
  unfold F_X7_term at h
  refine ev_aload_n zo_160_0 rfl rfl rfl rfl ?_
  obtain ⟨q5, hq5, h⟩ := zz_bd h
  refine ev_cV (as := []) (lsn := [.ref 46, zzU]) (by omega) zo_160_1 zl_160_232 (by rw [zm_159]; rfl) (by rw [zm_159]; exact rfl) (by rw [zm_159]; decide) (by unfold zzIn; rw [zm_159]; rfl) (by rw [zm_159]; exact Nat.le_of_ble_eq_true rfl) (Nat.le_of_ble_eq_true rfl) (G_X7_atom k_X7_atom k_X7_not k_X7_either hk_X7_atom hk_X7_not hk_X7_either (by omega) J q5 hq5) rfl ?_
  show zzEv _ _ _ _ [.int q5.1] _ _
  refine ev_istore_n zo_160_4 rfl (zz_set rfl (by decide) (Nat.le_of_ble_eq_true rfl)) rfl ?_
  show zzEv _ _ _ [.ref 46, .int q5.1] _ _ _
  exact G_X7_term_5 k_X7_atom k_X7_not k_X7_either hk_X7_atom hk_X7_not hk_X7_either hd 4096 q5.1 q5.2 r h
/-! X7_added -/
def F_X7_added_39 (k_X7_atom : zzJ → Option (Int32 × zzJ)) (k_X7_not : zzJ → Option (Int32 × zzJ)) (k_X7_either : zzJ → Option (Int32 × zzJ)) (kl_5 : Int32 → zzJ → Option (Int32 × zzJ)) (l1 : Int32) (t0 : Int32) (J : zzJ) : Option (Int32 × zzJ) := (Option.bind (F_X7_next J) fun q1 => (Option.bind (F_X7_term k_X7_atom k_X7_not k_X7_either q1) fun q2 => (if t0 = (0 : Int32) then kl_5 (l1 - q2.1) q2.2 else kl_5 (l1 + q2.1) q2.2)))
set_option maxRecDepth 100000 in
set_option maxHeartbeats 2000000 in
theorem G_X7_added_39 {D d : Nat} (k_X7_atom : zzJ → Option (Int32 × zzJ)) (k_X7_not : zzJ → Option (Int32 × zzJ)) (k_X7_either : zzJ → Option (Int32 × zzJ)) (hk_X7_atom : ∀ dd, D ≤ dd → ∀ (J : zzJ) (q : Int32 × zzJ), k_X7_atom J = some q → zzEv dd 159 0 [.ref 46, zzU] [] (zK J) (some (.int q.1), zK q.2)) (hk_X7_not : ∀ dd, D ≤ dd → ∀ (J : zzJ) (q : Int32 × zzJ), k_X7_not J = some q → zzEv dd 162 0 [.ref 46, zzU, zzU, zzU] [] (zK J) (some (.int q.1), zK q.2)) (hk_X7_either : ∀ dd, D ≤ dd → ∀ (J : zzJ) (q : Int32 × zzJ), k_X7_either J = some q → zzEv dd 164 0 [.ref 46, zzU, zzU] [] (zK J) (some (.int q.1), zK q.2)) (kl_5 : Int32 → zzJ → Option (Int32 × zzJ)) (hkl_5 : ∀ (l1 : Int32) (J : zzJ) (r : Int32 × zzJ), kl_5 l1 J = some r → ∀ (lv2 : Value) (hlv2 : lv2.category = 1), ∀ (lv3 : Value) (hlv3 : lv3.category = 1), zzEv d 161 5 [.ref 46, .int l1, lv2, lv3] [] (zK J) (some (.int r.1), zK r.2)) (hd : D + 6 ≤ d) : ∀ (l1 : Int32) (t0 : Int32) (J : zzJ) (r : Int32 × zzJ), F_X7_added_39 k_X7_atom k_X7_not k_X7_either kl_5 l1 t0 J = some r → ∀ (lv2 : Value) (hlv2 : lv2.category = 1), ∀ (lv3 : Value) (hlv3 : lv3.category = 1), zzEv d 161 39 [.ref 46, .int l1, lv2, lv3] [.int t0] (zK J) (some (.int r.1), zK r.2) := by
  intro l1 t0 J r h lv2 hlv2 lv3 hlv3
  unfold F_X7_added_39 at h
  refine ev_istore_n zo_161_39 rfl (zz_set rfl (by decide) (Nat.le_of_ble_eq_true rfl)) rfl ?_
  show zzEv _ _ _ [.ref 46, .int l1, .int t0, lv3] _ _ _
  refine ev_aload_n zo_161_40 rfl rfl rfl rfl ?_
  obtain ⟨q1, hq1, h⟩ := zz_bd h
  refine ev_cV (as := []) (lsn := [.ref 46, zzU, zzU]) (by omega) zo_161_41 zl_161_200 (by rw [zm_152]; rfl) (by rw [zm_152]; exact rfl) (by rw [zm_152]; decide) (by unfold zzIn; rw [zm_152]; rfl) (by rw [zm_152]; exact Nat.le_of_ble_eq_true rfl) (Nat.le_of_ble_eq_true rfl) (G_X7_next (by omega) J q1 hq1) rfl ?_
  show zzEv _ _ _ _ [] _ _
  refine ev_aload_n zo_161_44 rfl rfl rfl rfl ?_
  obtain ⟨q2, hq2, h⟩ := zz_bd h
  refine ev_cV (as := []) (lsn := [.ref 46, zzU]) (by omega) zo_161_45 zl_161_242 (by rw [zm_160]; rfl) (by rw [zm_160]; exact rfl) (by rw [zm_160]; decide) (by unfold zzIn; rw [zm_160]; rfl) (by rw [zm_160]; exact Nat.le_of_ble_eq_true rfl) (Nat.le_of_ble_eq_true rfl) (G_X7_term k_X7_atom k_X7_not k_X7_either hk_X7_atom hk_X7_not hk_X7_either (by omega) q1 q2 hq2) rfl ?_
  show zzEv _ _ _ _ [.int q2.1] _ _
  refine ev_istore_n zo_161_48 rfl (zz_set rfl (by decide) (Nat.le_of_ble_eq_true rfl)) rfl ?_
  show zzEv _ _ _ [.ref 46, .int l1, .int t0, .int q2.1] _ _ _
  refine ev_iload_n zo_161_49 rfl rfl rfl ?_
  by_cases c3 : t0 = (0 : Int32)
  · rw [if_pos c3] at h
    refine ev_if_t (t := 59) zo_161_50 rfl (zcm_eq c3) ?_
    refine ev_iload_n zo_161_59 rfl rfl rfl ?_
    refine ev_iload_n zo_161_60 rfl rfl rfl ?_
    refine ev_isub zo_161_61 rfl ?_
    refine ev_istore_n zo_161_62 rfl (zz_set rfl (by decide) (Nat.le_of_ble_eq_true rfl)) rfl ?_
    show zzEv _ _ _ [.ref 46, .int (l1 - q2.1), .int t0, .int q2.1] _ _ _
    refine ev_goto (t := 5) zo_161_63 rfl ?_
    exact hkl_5 (l1 - q2.1) q2.2 r h (.int t0) rfl (.int q2.1) rfl
  rw [if_neg c3] at h
  refine ev_if_f (t := 59) zo_161_50 rfl (zcm_neq c3) rfl ?_
  refine ev_iload_n zo_161_53 rfl rfl rfl ?_
  refine ev_iload_n zo_161_54 rfl rfl rfl ?_
  refine ev_iadd zo_161_55 rfl ?_
  refine ev_goto (t := 62) zo_161_56 rfl ?_
  refine ev_istore_n zo_161_62 rfl (zz_set rfl (by decide) (Nat.le_of_ble_eq_true rfl)) rfl ?_
  show zzEv _ _ _ [.ref 46, .int (l1 + q2.1), .int t0, .int q2.1] _ _ _
  refine ev_goto (t := 5) zo_161_63 rfl ?_
  exact hkl_5 (l1 + q2.1) q2.2 r h (.int t0) rfl (.int q2.1) rfl
def F_X7_added_23 (k_X7_atom : zzJ → Option (Int32 × zzJ)) (k_X7_not : zzJ → Option (Int32 × zzJ)) (k_X7_either : zzJ → Option (Int32 × zzJ)) (kl_5 : Int32 → zzJ → Option (Int32 × zzJ)) (l1 : Int32) (J : zzJ) : Option (Int32 × zzJ) := (if (lg_cmp (J.1 46 26) (43 : Int64)) = (0 : Int32) then F_X7_added_39 k_X7_atom k_X7_not k_X7_either kl_5 l1 (1 : Int32) J else F_X7_added_39 k_X7_atom k_X7_not k_X7_either kl_5 l1 (0 : Int32) J)
set_option maxRecDepth 100000 in
set_option maxHeartbeats 2000000 in
theorem G_X7_added_23 {D d : Nat} (k_X7_atom : zzJ → Option (Int32 × zzJ)) (k_X7_not : zzJ → Option (Int32 × zzJ)) (k_X7_either : zzJ → Option (Int32 × zzJ)) (hk_X7_atom : ∀ dd, D ≤ dd → ∀ (J : zzJ) (q : Int32 × zzJ), k_X7_atom J = some q → zzEv dd 159 0 [.ref 46, zzU] [] (zK J) (some (.int q.1), zK q.2)) (hk_X7_not : ∀ dd, D ≤ dd → ∀ (J : zzJ) (q : Int32 × zzJ), k_X7_not J = some q → zzEv dd 162 0 [.ref 46, zzU, zzU, zzU] [] (zK J) (some (.int q.1), zK q.2)) (hk_X7_either : ∀ dd, D ≤ dd → ∀ (J : zzJ) (q : Int32 × zzJ), k_X7_either J = some q → zzEv dd 164 0 [.ref 46, zzU, zzU] [] (zK J) (some (.int q.1), zK q.2)) (kl_5 : Int32 → zzJ → Option (Int32 × zzJ)) (hkl_5 : ∀ (l1 : Int32) (J : zzJ) (r : Int32 × zzJ), kl_5 l1 J = some r → ∀ (lv2 : Value) (hlv2 : lv2.category = 1), ∀ (lv3 : Value) (hlv3 : lv3.category = 1), zzEv d 161 5 [.ref 46, .int l1, lv2, lv3] [] (zK J) (some (.int r.1), zK r.2)) (hd : D + 6 ≤ d) : ∀ (l1 : Int32) (J : zzJ) (r : Int32 × zzJ), F_X7_added_23 k_X7_atom k_X7_not k_X7_either kl_5 l1 J = some r → ∀ (lv2 : Value) (hlv2 : lv2.category = 1), ∀ (lv3 : Value) (hlv3 : lv3.category = 1), zzEv d 161 23 [.ref 46, .int l1, lv2, lv3] [] (zK J) (some (.int r.1), zK r.2) := by
  intro l1 J r h lv2 hlv2 lv3 hlv3
  unfold F_X7_added_23 at h
  refine ev_aload_n zo_161_23 rfl rfl rfl rfl ?_
  refine ev_getL zo_161_24 zf_161_177 (by decide) rfl rfl rfl ?_
  refine ev_ldc2 zo_161_27 zc_161_245 rfl ?_
  refine ev_lcmp zo_161_30 rfl ?_
  by_cases c4 : (lg_cmp (J.1 46 26) (43 : Int64)) = (0 : Int32)
  · rw [if_pos c4] at h
    refine ev_if_f (t := 38) zo_161_31 rfl (zcm_nne c4) rfl ?_
    refine ev_iconst (x := 1) zo_161_34 (by decide) rfl ?_
    refine ev_goto (t := 39) zo_161_35 rfl ?_
    exact G_X7_added_39 k_X7_atom k_X7_not k_X7_either hk_X7_atom hk_X7_not hk_X7_either kl_5 hkl_5 hd l1 (1 : Int32) J r h (lv2) hlv2 (lv3) hlv3
  rw [if_neg c4] at h
  refine ev_if_t (t := 38) zo_161_31 rfl (zcm_ne c4) ?_
  refine ev_iconst (x := 0) zo_161_38 (by decide) rfl ?_
  exact G_X7_added_39 k_X7_atom k_X7_not k_X7_either hk_X7_atom hk_X7_not hk_X7_either kl_5 hkl_5 hd l1 (0 : Int32) J r h (lv2) hlv2 (lv3) hlv3
def F_X7_added_5 (k_X7_atom : zzJ → Option (Int32 × zzJ)) (k_X7_not : zzJ → Option (Int32 × zzJ)) (k_X7_either : zzJ → Option (Int32 × zzJ)) : Nat → Int32 → zzJ → Option (Int32 × zzJ)
  | 0, _, _ => none
  | n + 1, l1, J => (Option.bind (F_X7_isSign (43 : Int32) J) fun q5 => (if q5.1 = (0 : Int32) then (Option.bind (F_X7_isSign (45 : Int32) q5.2) fun q7 => (if q7.1 = (0 : Int32) then some (l1, q7.2) else F_X7_added_23 k_X7_atom k_X7_not k_X7_either (F_X7_added_5 k_X7_atom k_X7_not k_X7_either n) l1 q7.2)) else F_X7_added_23 k_X7_atom k_X7_not k_X7_either (F_X7_added_5 k_X7_atom k_X7_not k_X7_either n) l1 q5.2))
set_option maxRecDepth 100000 in
set_option maxHeartbeats 2000000 in
theorem G_X7_added_5 {D d : Nat} (k_X7_atom : zzJ → Option (Int32 × zzJ)) (k_X7_not : zzJ → Option (Int32 × zzJ)) (k_X7_either : zzJ → Option (Int32 × zzJ)) (hk_X7_atom : ∀ dd, D ≤ dd → ∀ (J : zzJ) (q : Int32 × zzJ), k_X7_atom J = some q → zzEv dd 159 0 [.ref 46, zzU] [] (zK J) (some (.int q.1), zK q.2)) (hk_X7_not : ∀ dd, D ≤ dd → ∀ (J : zzJ) (q : Int32 × zzJ), k_X7_not J = some q → zzEv dd 162 0 [.ref 46, zzU, zzU, zzU] [] (zK J) (some (.int q.1), zK q.2)) (hk_X7_either : ∀ dd, D ≤ dd → ∀ (J : zzJ) (q : Int32 × zzJ), k_X7_either J = some q → zzEv dd 164 0 [.ref 46, zzU, zzU] [] (zK J) (some (.int q.1), zK q.2)) (hd : D + 6 ≤ d) : ∀ (n : Nat) (l1 : Int32) (J : zzJ) (r : Int32 × zzJ), F_X7_added_5 k_X7_atom k_X7_not k_X7_either n l1 J = some r → ∀ (lv2 : Value) (hlv2 : lv2.category = 1), ∀ (lv3 : Value) (hlv3 : lv3.category = 1), zzEv d 161 5 [.ref 46, .int l1, lv2, lv3] [] (zK J) (some (.int r.1), zK r.2) := by
  intro n
  induction n with
  | zero => intro l1 J r h; simp [F_X7_added_5] at h
  | succ n ih =>
    intro l1 J r h lv2 hlv2 lv3 hlv3
    rw [F_X7_added_5] at h
    refine ev_aload_n zo_161_5 rfl rfl rfl rfl ?_
    refine ev_bipush (x := 43) zo_161_6 (by decide) rfl ?_
    obtain ⟨q5, hq5, h⟩ := zz_bd h
    refine ev_cV (as := [.int (43 : Int32)]) (lsn := [.ref 46, .int (43 : Int32)]) (by omega) zo_161_8 zl_161_225 (by rw [zm_156]; rfl) (by rw [zm_156]; exact rfl) (by rw [zm_156]; decide) (by unfold zzIn; rw [zm_156]; rfl) (by rw [zm_156]; exact Nat.le_of_ble_eq_true rfl) (Nat.le_of_ble_eq_true rfl) (G_X7_isSign (by omega) (43 : Int32) J q5 hq5) rfl ?_
    show zzEv _ _ _ _ [.int q5.1] _ _
    by_cases c6 : q5.1 = (0 : Int32)
    · rw [if_pos c6] at h
      refine ev_if_f (t := 23) zo_161_11 rfl (zcm_nne c6) rfl ?_
      refine ev_aload_n zo_161_14 rfl rfl rfl rfl ?_
      refine ev_bipush (x := 45) zo_161_15 (by decide) rfl ?_
      obtain ⟨q7, hq7, h⟩ := zz_bd h
      refine ev_cV (as := [.int (45 : Int32)]) (lsn := [.ref 46, .int (45 : Int32)]) (by omega) zo_161_17 zl_161_225 (by rw [zm_156]; rfl) (by rw [zm_156]; exact rfl) (by rw [zm_156]; decide) (by unfold zzIn; rw [zm_156]; rfl) (by rw [zm_156]; exact Nat.le_of_ble_eq_true rfl) (Nat.le_of_ble_eq_true rfl) (G_X7_isSign (by omega) (45 : Int32) q5.2 q7 hq7) rfl ?_
      show zzEv _ _ _ _ [.int q7.1] _ _
      by_cases c8 : q7.1 = (0 : Int32)
      · rw [if_pos c8] at h
        refine ev_if_t (t := 66) zo_161_20 rfl (zcm_eq c8) ?_
        refine ev_iload_n zo_161_66 rfl rfl rfl ?_
        obtain rfl := Option.some.inj h
        exact ev_retI zo_161_67 zr_161
      rw [if_neg c8] at h
      refine ev_if_f (t := 66) zo_161_20 rfl (zcm_neq c8) rfl ?_
      exact G_X7_added_23 k_X7_atom k_X7_not k_X7_either hk_X7_atom hk_X7_not hk_X7_either (F_X7_added_5 k_X7_atom k_X7_not k_X7_either n) ih hd l1 q7.2 r h (lv2) hlv2 (lv3) hlv3
    rw [if_neg c6] at h
    refine ev_if_t (t := 23) zo_161_11 rfl (zcm_ne c6) ?_
    exact G_X7_added_23 k_X7_atom k_X7_not k_X7_either hk_X7_atom hk_X7_not hk_X7_either (F_X7_added_5 k_X7_atom k_X7_not k_X7_either n) ih hd l1 q5.2 r h (lv2) hlv2 (lv3) hlv3
def F_X7_added (k_X7_atom : zzJ → Option (Int32 × zzJ)) (k_X7_not : zzJ → Option (Int32 × zzJ)) (k_X7_either : zzJ → Option (Int32 × zzJ)) (J : zzJ) : Option (Int32 × zzJ) := (Option.bind (F_X7_term k_X7_atom k_X7_not k_X7_either J) fun q9 => F_X7_added_5 k_X7_atom k_X7_not k_X7_either 4096 q9.1 q9.2)
set_option maxRecDepth 100000 in
set_option maxHeartbeats 2000000 in
theorem G_X7_added {D d : Nat} (k_X7_atom : zzJ → Option (Int32 × zzJ)) (k_X7_not : zzJ → Option (Int32 × zzJ)) (k_X7_either : zzJ → Option (Int32 × zzJ)) (hk_X7_atom : ∀ dd, D ≤ dd → ∀ (J : zzJ) (q : Int32 × zzJ), k_X7_atom J = some q → zzEv dd 159 0 [.ref 46, zzU] [] (zK J) (some (.int q.1), zK q.2)) (hk_X7_not : ∀ dd, D ≤ dd → ∀ (J : zzJ) (q : Int32 × zzJ), k_X7_not J = some q → zzEv dd 162 0 [.ref 46, zzU, zzU, zzU] [] (zK J) (some (.int q.1), zK q.2)) (hk_X7_either : ∀ dd, D ≤ dd → ∀ (J : zzJ) (q : Int32 × zzJ), k_X7_either J = some q → zzEv dd 164 0 [.ref 46, zzU, zzU] [] (zK J) (some (.int q.1), zK q.2)) (hd : D + 6 ≤ d) (J : zzJ) (r : Int32 × zzJ) (h : F_X7_added k_X7_atom k_X7_not k_X7_either J = some r) : zzEv d 161 0 [.ref 46, zzU, zzU, zzU] [] (zK J) (some (.int r.1), zK r.2) := by
  unfold F_X7_added at h
  refine ev_aload_n zo_161_0 rfl rfl rfl rfl ?_
  obtain ⟨q9, hq9, h⟩ := zz_bd h
  refine ev_cV (as := []) (lsn := [.ref 46, zzU]) (by omega) zo_161_1 zl_161_242 (by rw [zm_160]; rfl) (by rw [zm_160]; exact rfl) (by rw [zm_160]; decide) (by unfold zzIn; rw [zm_160]; rfl) (by rw [zm_160]; exact Nat.le_of_ble_eq_true rfl) (Nat.le_of_ble_eq_true rfl) (G_X7_term k_X7_atom k_X7_not k_X7_either hk_X7_atom hk_X7_not hk_X7_either (by omega) J q9 hq9) rfl ?_
  show zzEv _ _ _ _ [.int q9.1] _ _
  refine ev_istore_n zo_161_4 rfl (zz_set rfl (by decide) (Nat.le_of_ble_eq_true rfl)) rfl ?_
  show zzEv _ _ _ [.ref 46, .int q9.1, zzU, zzU] _ _ _
  exact G_X7_added_5 k_X7_atom k_X7_not k_X7_either hk_X7_atom hk_X7_not hk_X7_either hd 4096 q9.1 q9.2 r h (zzU) rfl (zzU) rfl
/-! X7_not -/
def F_X7_not_93 (k_X7_atom : zzJ → Option (Int32 × zzJ)) (k_X7_not : zzJ → Option (Int32 × zzJ)) (k_X7_either : zzJ → Option (Int32 × zzJ)) (l1 : Int32) (t0 : Int32) (J : zzJ) : Option (Int32 × zzJ) := (Option.bind (F_X7_next J) fun q1 => (Option.bind (F_X7_added k_X7_atom k_X7_not k_X7_either q1) fun q2 => (if t0 = (0 : Int32) then (if l1 = q2.1 then some ((1 : Int32), q2.2) else some ((0 : Int32), q2.2)) else (if l1 < q2.1 then some ((1 : Int32), q2.2) else some ((0 : Int32), q2.2)))))
set_option maxRecDepth 100000 in
set_option maxHeartbeats 2000000 in
theorem G_X7_not_93 {D d : Nat} (k_X7_atom : zzJ → Option (Int32 × zzJ)) (k_X7_not : zzJ → Option (Int32 × zzJ)) (k_X7_either : zzJ → Option (Int32 × zzJ)) (hk_X7_atom : ∀ dd, D ≤ dd → ∀ (J : zzJ) (q : Int32 × zzJ), k_X7_atom J = some q → zzEv dd 159 0 [.ref 46, zzU] [] (zK J) (some (.int q.1), zK q.2)) (hk_X7_not : ∀ dd, D ≤ dd → ∀ (J : zzJ) (q : Int32 × zzJ), k_X7_not J = some q → zzEv dd 162 0 [.ref 46, zzU, zzU, zzU] [] (zK J) (some (.int q.1), zK q.2)) (hk_X7_either : ∀ dd, D ≤ dd → ∀ (J : zzJ) (q : Int32 × zzJ), k_X7_either J = some q → zzEv dd 164 0 [.ref 46, zzU, zzU] [] (zK J) (some (.int q.1), zK q.2)) (hd : D + 7 ≤ d) : ∀ (l1 : Int32) (t0 : Int32) (J : zzJ) (r : Int32 × zzJ), F_X7_not_93 k_X7_atom k_X7_not k_X7_either l1 t0 J = some r → zzEv d 162 93 [.ref 46, .int l1, zzU, zzU] [.int t0] (zK J) (some (.int r.1), zK r.2) := by
  intro l1 t0 J r h
  unfold F_X7_not_93 at h
  refine ev_istore_n zo_162_93 rfl (zz_set rfl (by decide) (Nat.le_of_ble_eq_true rfl)) rfl ?_
  show zzEv _ _ _ [.ref 46, .int l1, .int t0, zzU] _ _ _
  refine ev_aload_n zo_162_94 rfl rfl rfl rfl ?_
  obtain ⟨q1, hq1, h⟩ := zz_bd h
  refine ev_cV (as := []) (lsn := [.ref 46, zzU, zzU]) (by omega) zo_162_95 zl_162_200 (by rw [zm_152]; rfl) (by rw [zm_152]; exact rfl) (by rw [zm_152]; decide) (by unfold zzIn; rw [zm_152]; rfl) (by rw [zm_152]; exact Nat.le_of_ble_eq_true rfl) (Nat.le_of_ble_eq_true rfl) (G_X7_next (by omega) J q1 hq1) rfl ?_
  show zzEv _ _ _ _ [] _ _
  refine ev_aload_n zo_162_98 rfl rfl rfl rfl ?_
  obtain ⟨q2, hq2, h⟩ := zz_bd h
  refine ev_cV (as := []) (lsn := [.ref 46, zzU, zzU, zzU]) (by omega) zo_162_99 zl_162_250 (by rw [zm_161]; rfl) (by rw [zm_161]; exact rfl) (by rw [zm_161]; decide) (by unfold zzIn; rw [zm_161]; rfl) (by rw [zm_161]; exact Nat.le_of_ble_eq_true rfl) (Nat.le_of_ble_eq_true rfl) (G_X7_added k_X7_atom k_X7_not k_X7_either hk_X7_atom hk_X7_not hk_X7_either (by omega) q1 q2 hq2) rfl ?_
  show zzEv _ _ _ _ [.int q2.1] _ _
  refine ev_istore_n zo_162_102 rfl (zz_set rfl (by decide) (Nat.le_of_ble_eq_true rfl)) rfl ?_
  show zzEv _ _ _ [.ref 46, .int l1, .int t0, .int q2.1] _ _ _
  refine ev_iload_n zo_162_103 rfl rfl rfl ?_
  by_cases c3 : t0 = (0 : Int32)
  · rw [if_pos c3] at h
    refine ev_if_t (t := 115) zo_162_104 rfl (zcm_eq c3) ?_
    refine ev_iload_n zo_162_115 rfl rfl rfl ?_
    refine ev_iload_n zo_162_116 rfl rfl rfl ?_
    by_cases c4 : l1 = q2.1
    · rw [if_pos c4] at h
      refine ev_cmp_f (t := 124) zo_162_117 rfl (zcm_nne c4) rfl ?_
      refine ev_iconst (x := 1) zo_162_120 (by decide) rfl ?_
      refine ev_goto (t := 125) zo_162_121 rfl ?_
      obtain rfl := Option.some.inj h
      exact ev_retI zo_162_125 zr_162
    rw [if_neg c4] at h
    refine ev_cmp_t (t := 124) zo_162_117 rfl (zcm_ne c4) ?_
    refine ev_iconst (x := 0) zo_162_124 (by decide) rfl ?_
    obtain rfl := Option.some.inj h
    exact ev_retI zo_162_125 zr_162
  rw [if_neg c3] at h
  refine ev_if_f (t := 115) zo_162_104 rfl (zcm_neq c3) rfl ?_
  refine ev_iload_n zo_162_107 rfl rfl rfl ?_
  refine ev_iload_n zo_162_108 rfl rfl rfl ?_
  by_cases c5 : l1 < q2.1
  · rw [if_pos c5] at h
    refine ev_cmp_f (t := 124) zo_162_109 rfl (zcm_nge c5) rfl ?_
    refine ev_goto (t := 120) zo_162_112 rfl ?_
    refine ev_iconst (x := 1) zo_162_120 (by decide) rfl ?_
    refine ev_goto (t := 125) zo_162_121 rfl ?_
    obtain rfl := Option.some.inj h
    exact ev_retI zo_162_125 zr_162
  rw [if_neg c5] at h
  refine ev_cmp_t (t := 124) zo_162_109 rfl (zcm_ge c5) ?_
  refine ev_iconst (x := 0) zo_162_124 (by decide) rfl ?_
  obtain rfl := Option.some.inj h
  exact ev_retI zo_162_125 zr_162
def F_X7_not_77 (k_X7_atom : zzJ → Option (Int32 × zzJ)) (k_X7_not : zzJ → Option (Int32 × zzJ)) (k_X7_either : zzJ → Option (Int32 × zzJ)) (l1 : Int32) (J : zzJ) : Option (Int32 × zzJ) := (if (lg_cmp (J.1 46 26) (60 : Int64)) = (0 : Int32) then F_X7_not_93 k_X7_atom k_X7_not k_X7_either l1 (1 : Int32) J else F_X7_not_93 k_X7_atom k_X7_not k_X7_either l1 (0 : Int32) J)
set_option maxRecDepth 100000 in
set_option maxHeartbeats 2000000 in
theorem G_X7_not_77 {D d : Nat} (k_X7_atom : zzJ → Option (Int32 × zzJ)) (k_X7_not : zzJ → Option (Int32 × zzJ)) (k_X7_either : zzJ → Option (Int32 × zzJ)) (hk_X7_atom : ∀ dd, D ≤ dd → ∀ (J : zzJ) (q : Int32 × zzJ), k_X7_atom J = some q → zzEv dd 159 0 [.ref 46, zzU] [] (zK J) (some (.int q.1), zK q.2)) (hk_X7_not : ∀ dd, D ≤ dd → ∀ (J : zzJ) (q : Int32 × zzJ), k_X7_not J = some q → zzEv dd 162 0 [.ref 46, zzU, zzU, zzU] [] (zK J) (some (.int q.1), zK q.2)) (hk_X7_either : ∀ dd, D ≤ dd → ∀ (J : zzJ) (q : Int32 × zzJ), k_X7_either J = some q → zzEv dd 164 0 [.ref 46, zzU, zzU] [] (zK J) (some (.int q.1), zK q.2)) (hd : D + 7 ≤ d) : ∀ (l1 : Int32) (J : zzJ) (r : Int32 × zzJ), F_X7_not_77 k_X7_atom k_X7_not k_X7_either l1 J = some r → zzEv d 162 77 [.ref 46, .int l1, zzU, zzU] [] (zK J) (some (.int r.1), zK r.2) := by
  intro l1 J r h
  unfold F_X7_not_77 at h
  refine ev_aload_n zo_162_77 rfl rfl rfl rfl ?_
  refine ev_getL zo_162_78 zf_162_177 (by decide) rfl rfl rfl ?_
  refine ev_ldc2 zo_162_81 zc_162_253 rfl ?_
  refine ev_lcmp zo_162_84 rfl ?_
  by_cases c6 : (lg_cmp (J.1 46 26) (60 : Int64)) = (0 : Int32)
  · rw [if_pos c6] at h
    refine ev_if_f (t := 92) zo_162_85 rfl (zcm_nne c6) rfl ?_
    refine ev_iconst (x := 1) zo_162_88 (by decide) rfl ?_
    refine ev_goto (t := 93) zo_162_89 rfl ?_
    exact G_X7_not_93 k_X7_atom k_X7_not k_X7_either hk_X7_atom hk_X7_not hk_X7_either hd l1 (1 : Int32) J r h
  rw [if_neg c6] at h
  refine ev_if_t (t := 92) zo_162_85 rfl (zcm_ne c6) ?_
  refine ev_iconst (x := 0) zo_162_92 (by decide) rfl ?_
  exact G_X7_not_93 k_X7_atom k_X7_not k_X7_either hk_X7_atom hk_X7_not hk_X7_either hd l1 (0 : Int32) J r h
def F_X7_not (k_X7_atom : zzJ → Option (Int32 × zzJ)) (k_X7_not : zzJ → Option (Int32 × zzJ)) (k_X7_either : zzJ → Option (Int32 × zzJ)) (J : zzJ) : Option (Int32 × zzJ) := (Option.bind (F_X7_isWord (110 : Int32) (111 : Int32) (116 : Int32) (0 : Int32) (0 : Int32) (0 : Int32) (0 : Int32) (0 : Int32) J) fun q7 => (if q7.1 = (0 : Int32) then (Option.bind (F_X7_added k_X7_atom k_X7_not k_X7_either q7.2) fun q9 => (Option.bind (F_X7_isSign (60 : Int32) q9.2) fun q10 => (if q10.1 = (0 : Int32) then (Option.bind (F_X7_isSign (61 : Int32) q10.2) fun q12 => (if q12.1 = (0 : Int32) then some (q9.1, q12.2) else F_X7_not_77 k_X7_atom k_X7_not k_X7_either q9.1 q12.2)) else F_X7_not_77 k_X7_atom k_X7_not k_X7_either q9.1 q10.2))) else (Option.bind (F_X7_opens q7.2) fun q14 => (if q14.1 = (0 : Int32) then some ((0 : Int32), q14.2) else (Option.bind (k_X7_not q14.2) fun q16 => (if q16.1 = (0 : Int32) then some ((1 : Int32), (wI q16.2 46 27 ((q16.2.2 46 27) - (1 : Int32)))) else some ((0 : Int32), (wI q16.2 46 27 ((q16.2.2 46 27) - (1 : Int32))))))))))
set_option maxRecDepth 100000 in
set_option maxHeartbeats 2000000 in
theorem G_X7_not {D d : Nat} (k_X7_atom : zzJ → Option (Int32 × zzJ)) (k_X7_not : zzJ → Option (Int32 × zzJ)) (k_X7_either : zzJ → Option (Int32 × zzJ)) (hk_X7_atom : ∀ dd, D ≤ dd → ∀ (J : zzJ) (q : Int32 × zzJ), k_X7_atom J = some q → zzEv dd 159 0 [.ref 46, zzU] [] (zK J) (some (.int q.1), zK q.2)) (hk_X7_not : ∀ dd, D ≤ dd → ∀ (J : zzJ) (q : Int32 × zzJ), k_X7_not J = some q → zzEv dd 162 0 [.ref 46, zzU, zzU, zzU] [] (zK J) (some (.int q.1), zK q.2)) (hk_X7_either : ∀ dd, D ≤ dd → ∀ (J : zzJ) (q : Int32 × zzJ), k_X7_either J = some q → zzEv dd 164 0 [.ref 46, zzU, zzU] [] (zK J) (some (.int q.1), zK q.2)) (hd : D + 7 ≤ d) (J : zzJ) (r : Int32 × zzJ) (h : F_X7_not k_X7_atom k_X7_not k_X7_either J = some r) : zzEv d 162 0 [.ref 46, zzU, zzU, zzU] [] (zK J) (some (.int r.1), zK r.2) := by
  unfold F_X7_not at h
  refine ev_aload_n zo_162_0 rfl rfl rfl rfl ?_
  refine ev_bipush (x := 110) zo_162_1 (by decide) rfl ?_
  refine ev_bipush (x := 111) zo_162_3 (by decide) rfl ?_
  refine ev_bipush (x := 116) zo_162_5 (by decide) rfl ?_
  refine ev_iconst (x := 0) zo_162_7 (by decide) rfl ?_
  refine ev_iconst (x := 0) zo_162_8 (by decide) rfl ?_
  refine ev_iconst (x := 0) zo_162_9 (by decide) rfl ?_
  refine ev_iconst (x := 0) zo_162_10 (by decide) rfl ?_
  refine ev_iconst (x := 0) zo_162_11 (by decide) rfl ?_
  obtain ⟨q7, hq7, h⟩ := zz_bd h
  refine ev_cV (as := [.int (0 : Int32), .int (0 : Int32), .int (0 : Int32), .int (0 : Int32), .int (0 : Int32), .int (116 : Int32), .int (111 : Int32), .int (110 : Int32)]) (lsn := [.ref 46, .int (110 : Int32), .int (111 : Int32), .int (116 : Int32), .int (0 : Int32), .int (0 : Int32), .int (0 : Int32), .int (0 : Int32), .int (0 : Int32)]) (by omega) zo_162_12 zl_162_203 (by rw [zm_155]; rfl) (by rw [zm_155]; exact rfl) (by rw [zm_155]; decide) (by unfold zzIn; rw [zm_155]; rfl) (by rw [zm_155]; exact Nat.le_of_ble_eq_true rfl) (Nat.le_of_ble_eq_true rfl) (G_X7_isWord (by omega) (110 : Int32) (111 : Int32) (116 : Int32) (0 : Int32) (0 : Int32) (0 : Int32) (0 : Int32) (0 : Int32) J q7 hq7) rfl ?_
  show zzEv _ _ _ _ [.int q7.1] _ _
  by_cases c8 : q7.1 = (0 : Int32)
  · rw [if_pos c8] at h
    refine ev_if_t (t := 52) zo_162_15 rfl (zcm_eq c8) ?_
    refine ev_aload_n zo_162_52 rfl rfl rfl rfl ?_
    obtain ⟨q9, hq9, h⟩ := zz_bd h
    refine ev_cV (as := []) (lsn := [.ref 46, zzU, zzU, zzU]) (by omega) zo_162_53 zl_162_250 (by rw [zm_161]; rfl) (by rw [zm_161]; exact rfl) (by rw [zm_161]; decide) (by unfold zzIn; rw [zm_161]; rfl) (by rw [zm_161]; exact Nat.le_of_ble_eq_true rfl) (Nat.le_of_ble_eq_true rfl) (G_X7_added k_X7_atom k_X7_not k_X7_either hk_X7_atom hk_X7_not hk_X7_either (by omega) q7.2 q9 hq9) rfl ?_
    show zzEv _ _ _ _ [.int q9.1] _ _
    refine ev_istore_n zo_162_56 rfl (zz_set rfl (by decide) (Nat.le_of_ble_eq_true rfl)) rfl ?_
    show zzEv _ _ _ [.ref 46, .int q9.1, zzU, zzU] _ _ _
    refine ev_aload_n zo_162_57 rfl rfl rfl rfl ?_
    refine ev_bipush (x := 60) zo_162_58 (by decide) rfl ?_
    obtain ⟨q10, hq10, h⟩ := zz_bd h
    refine ev_cV (as := [.int (60 : Int32)]) (lsn := [.ref 46, .int (60 : Int32)]) (by omega) zo_162_60 zl_162_225 (by rw [zm_156]; rfl) (by rw [zm_156]; exact rfl) (by rw [zm_156]; decide) (by unfold zzIn; rw [zm_156]; rfl) (by rw [zm_156]; exact Nat.le_of_ble_eq_true rfl) (Nat.le_of_ble_eq_true rfl) (G_X7_isSign (by omega) (60 : Int32) q9.2 q10 hq10) rfl ?_
    show zzEv _ _ _ _ [.int q10.1] _ _
    by_cases c11 : q10.1 = (0 : Int32)
    · rw [if_pos c11] at h
      refine ev_if_f (t := 77) zo_162_63 rfl (zcm_nne c11) rfl ?_
      refine ev_aload_n zo_162_66 rfl rfl rfl rfl ?_
      refine ev_bipush (x := 61) zo_162_67 (by decide) rfl ?_
      obtain ⟨q12, hq12, h⟩ := zz_bd h
      refine ev_cV (as := [.int (61 : Int32)]) (lsn := [.ref 46, .int (61 : Int32)]) (by omega) zo_162_69 zl_162_225 (by rw [zm_156]; rfl) (by rw [zm_156]; exact rfl) (by rw [zm_156]; decide) (by unfold zzIn; rw [zm_156]; rfl) (by rw [zm_156]; exact Nat.le_of_ble_eq_true rfl) (Nat.le_of_ble_eq_true rfl) (G_X7_isSign (by omega) (61 : Int32) q10.2 q12 hq12) rfl ?_
      show zzEv _ _ _ _ [.int q12.1] _ _
      by_cases c13 : q12.1 = (0 : Int32)
      · rw [if_pos c13] at h
        refine ev_if_f (t := 77) zo_162_72 rfl (zcm_nne c13) rfl ?_
        refine ev_iload_n zo_162_75 rfl rfl rfl ?_
        obtain rfl := Option.some.inj h
        exact ev_retI zo_162_76 zr_162
      rw [if_neg c13] at h
      refine ev_if_t (t := 77) zo_162_72 rfl (zcm_ne c13) ?_
      exact G_X7_not_77 k_X7_atom k_X7_not k_X7_either hk_X7_atom hk_X7_not hk_X7_either hd q9.1 q12.2 r h
    rw [if_neg c11] at h
    refine ev_if_t (t := 77) zo_162_63 rfl (zcm_ne c11) ?_
    exact G_X7_not_77 k_X7_atom k_X7_not k_X7_either hk_X7_atom hk_X7_not hk_X7_either hd q9.1 q10.2 r h
  rw [if_neg c8] at h
  refine ev_if_f (t := 52) zo_162_15 rfl (zcm_neq c8) rfl ?_
  refine ev_aload_n zo_162_18 rfl rfl rfl rfl ?_
  obtain ⟨q14, hq14, h⟩ := zz_bd h
  refine ev_cV (as := []) (lsn := [.ref 46]) (by omega) zo_162_19 zl_162_228 (by rw [zm_157]; rfl) (by rw [zm_157]; exact rfl) (by rw [zm_157]; decide) (by unfold zzIn; rw [zm_157]; rfl) (by rw [zm_157]; exact Nat.le_of_ble_eq_true rfl) (Nat.le_of_ble_eq_true rfl) (G_X7_opens (by omega) q7.2 q14 hq14) rfl ?_
  show zzEv _ _ _ _ [.int q14.1] _ _
  by_cases c15 : q14.1 = (0 : Int32)
  · rw [if_pos c15] at h
    refine ev_if_f (t := 27) zo_162_22 rfl (zcm_nne c15) rfl ?_
    refine ev_iconst (x := 0) zo_162_25 (by decide) rfl ?_
    obtain rfl := Option.some.inj h
    exact ev_retI zo_162_26 zr_162
  rw [if_neg c15] at h
  refine ev_if_t (t := 27) zo_162_22 rfl (zcm_ne c15) ?_
  refine ev_aload_n zo_162_27 rfl rfl rfl rfl ?_
  obtain ⟨q16, hq16, h⟩ := zz_bd h
  refine ev_cV (as := []) (lsn := [.ref 46, zzU, zzU, zzU]) (by omega) zo_162_28 zl_162_247 (by rw [zm_162]; rfl) (by rw [zm_162]; exact rfl) (by rw [zm_162]; decide) (by unfold zzIn; rw [zm_162]; rfl) (by rw [zm_162]; exact Nat.le_of_ble_eq_true rfl) (Nat.le_of_ble_eq_true rfl) (hk_X7_not _ (by omega) q14.2 q16 hq16) rfl ?_
  show zzEv _ _ _ _ [.int q16.1] _ _
  refine ev_istore_n zo_162_31 rfl (zz_set rfl (by decide) (Nat.le_of_ble_eq_true rfl)) rfl ?_
  show zzEv _ _ _ [.ref 46, .int q16.1, zzU, zzU] _ _ _
  refine ev_aload_n zo_162_32 rfl rfl rfl rfl ?_
  refine ev_dup zo_162_33 rfl rfl ?_
  refine ev_getI zo_162_34 zf_162_194 (by decide) (Or.inl rfl) rfl rfl ?_
  refine ev_iconst (x := 1) zo_162_37 (by decide) rfl ?_
  refine ev_isub zo_162_38 rfl ?_
  refine ev_putI zo_162_39 zf_162_194 (by decide) rfl rfl rfl rfl ?_
  refine ev_iload_n zo_162_42 rfl rfl rfl ?_
  by_cases c17 : q16.1 = (0 : Int32)
  · rw [if_pos c17] at h
    refine ev_if_f (t := 50) zo_162_43 rfl (zcm_nne c17) rfl ?_
    refine ev_iconst (x := 1) zo_162_46 (by decide) rfl ?_
    refine ev_goto (t := 51) zo_162_47 rfl ?_
    obtain rfl := Option.some.inj h
    exact ev_retI zo_162_51 zr_162
  rw [if_neg c17] at h
  refine ev_if_t (t := 50) zo_162_43 rfl (zcm_ne c17) ?_
  refine ev_iconst (x := 0) zo_162_50 (by decide) rfl ?_
  obtain rfl := Option.some.inj h
  exact ev_retI zo_162_51 zr_162
/-! X7_both -/
def F_X7_both_5 (k_X7_atom : zzJ → Option (Int32 × zzJ)) (k_X7_not : zzJ → Option (Int32 × zzJ)) (k_X7_either : zzJ → Option (Int32 × zzJ)) : Nat → Int32 → zzJ → Option (Int32 × zzJ)
  | 0, _, _ => none
  | n + 1, l1, J => (Option.bind (F_X7_isWord (97 : Int32) (110 : Int32) (100 : Int32) (0 : Int32) (0 : Int32) (0 : Int32) (0 : Int32) (0 : Int32) J) fun q1 => (if q1.1 = (0 : Int32) then some (l1, q1.2) else (Option.bind (F_X7_next q1.2) fun q3 => (Option.bind (F_X7_not k_X7_atom k_X7_not k_X7_either q3) fun q4 => (if l1 = (0 : Int32) then F_X7_both_5 k_X7_atom k_X7_not k_X7_either n (0 : Int32) q4.2 else (if q4.1 = (0 : Int32) then F_X7_both_5 k_X7_atom k_X7_not k_X7_either n (0 : Int32) q4.2 else F_X7_both_5 k_X7_atom k_X7_not k_X7_either n (1 : Int32) q4.2))))))
set_option maxRecDepth 100000 in
set_option maxHeartbeats 2000000 in
theorem G_X7_both_5 {D d : Nat} (k_X7_atom : zzJ → Option (Int32 × zzJ)) (k_X7_not : zzJ → Option (Int32 × zzJ)) (k_X7_either : zzJ → Option (Int32 × zzJ)) (hk_X7_atom : ∀ dd, D ≤ dd → ∀ (J : zzJ) (q : Int32 × zzJ), k_X7_atom J = some q → zzEv dd 159 0 [.ref 46, zzU] [] (zK J) (some (.int q.1), zK q.2)) (hk_X7_not : ∀ dd, D ≤ dd → ∀ (J : zzJ) (q : Int32 × zzJ), k_X7_not J = some q → zzEv dd 162 0 [.ref 46, zzU, zzU, zzU] [] (zK J) (some (.int q.1), zK q.2)) (hk_X7_either : ∀ dd, D ≤ dd → ∀ (J : zzJ) (q : Int32 × zzJ), k_X7_either J = some q → zzEv dd 164 0 [.ref 46, zzU, zzU] [] (zK J) (some (.int q.1), zK q.2)) (hd : D + 8 ≤ d) : ∀ (n : Nat) (l1 : Int32) (J : zzJ) (r : Int32 × zzJ), F_X7_both_5 k_X7_atom k_X7_not k_X7_either n l1 J = some r → ∀ (lv2 : Value) (hlv2 : lv2.category = 1), zzEv d 163 5 [.ref 46, .int l1, lv2] [] (zK J) (some (.int r.1), zK r.2) := by
  intro n
  induction n with
  | zero => intro l1 J r h; simp [F_X7_both_5] at h
  | succ n ih =>
    intro l1 J r h lv2 hlv2
    rw [F_X7_both_5] at h
    refine ev_aload_n zo_163_5 rfl rfl rfl rfl ?_
    refine ev_bipush (x := 97) zo_163_6 (by decide) rfl ?_
    refine ev_bipush (x := 110) zo_163_8 (by decide) rfl ?_
    refine ev_bipush (x := 100) zo_163_10 (by decide) rfl ?_
    refine ev_iconst (x := 0) zo_163_12 (by decide) rfl ?_
    refine ev_iconst (x := 0) zo_163_13 (by decide) rfl ?_
    refine ev_iconst (x := 0) zo_163_14 (by decide) rfl ?_
    refine ev_iconst (x := 0) zo_163_15 (by decide) rfl ?_
    refine ev_iconst (x := 0) zo_163_16 (by decide) rfl ?_
    obtain ⟨q1, hq1, h⟩ := zz_bd h
    refine ev_cV (as := [.int (0 : Int32), .int (0 : Int32), .int (0 : Int32), .int (0 : Int32), .int (0 : Int32), .int (100 : Int32), .int (110 : Int32), .int (97 : Int32)]) (lsn := [.ref 46, .int (97 : Int32), .int (110 : Int32), .int (100 : Int32), .int (0 : Int32), .int (0 : Int32), .int (0 : Int32), .int (0 : Int32), .int (0 : Int32)]) (by omega) zo_163_17 zl_163_203 (by rw [zm_155]; rfl) (by rw [zm_155]; exact rfl) (by rw [zm_155]; decide) (by unfold zzIn; rw [zm_155]; rfl) (by rw [zm_155]; exact Nat.le_of_ble_eq_true rfl) (Nat.le_of_ble_eq_true rfl) (G_X7_isWord (by omega) (97 : Int32) (110 : Int32) (100 : Int32) (0 : Int32) (0 : Int32) (0 : Int32) (0 : Int32) (0 : Int32) J q1 hq1) rfl ?_
    show zzEv _ _ _ _ [.int q1.1] _ _
    by_cases c2 : q1.1 = (0 : Int32)
    · rw [if_pos c2] at h
      refine ev_if_t (t := 49) zo_163_20 rfl (zcm_eq c2) ?_
      refine ev_iload_n zo_163_49 rfl rfl rfl ?_
      obtain rfl := Option.some.inj h
      exact ev_retI zo_163_50 zr_163
    rw [if_neg c2] at h
    refine ev_if_f (t := 49) zo_163_20 rfl (zcm_neq c2) rfl ?_
    refine ev_aload_n zo_163_23 rfl rfl rfl rfl ?_
    obtain ⟨q3, hq3, h⟩ := zz_bd h
    refine ev_cV (as := []) (lsn := [.ref 46, zzU, zzU]) (by omega) zo_163_24 zl_163_200 (by rw [zm_152]; rfl) (by rw [zm_152]; exact rfl) (by rw [zm_152]; decide) (by unfold zzIn; rw [zm_152]; rfl) (by rw [zm_152]; exact Nat.le_of_ble_eq_true rfl) (Nat.le_of_ble_eq_true rfl) (G_X7_next (by omega) q1.2 q3 hq3) rfl ?_
    show zzEv _ _ _ _ [] _ _
    refine ev_aload_n zo_163_27 rfl rfl rfl rfl ?_
    obtain ⟨q4, hq4, h⟩ := zz_bd h
    refine ev_cV (as := []) (lsn := [.ref 46, zzU, zzU, zzU]) (by omega) zo_163_28 zl_163_247 (by rw [zm_162]; rfl) (by rw [zm_162]; exact rfl) (by rw [zm_162]; decide) (by unfold zzIn; rw [zm_162]; rfl) (by rw [zm_162]; exact Nat.le_of_ble_eq_true rfl) (Nat.le_of_ble_eq_true rfl) (G_X7_not k_X7_atom k_X7_not k_X7_either hk_X7_atom hk_X7_not hk_X7_either (by omega) q3 q4 hq4) rfl ?_
    show zzEv _ _ _ _ [.int q4.1] _ _
    refine ev_istore_n zo_163_31 rfl (zz_set rfl (by decide) (Nat.le_of_ble_eq_true rfl)) rfl ?_
    show zzEv _ _ _ [.ref 46, .int l1, .int q4.1] _ _ _
    refine ev_iload_n zo_163_32 rfl rfl rfl ?_
    by_cases c5 : l1 = (0 : Int32)
    · rw [if_pos c5] at h
      refine ev_if_t (t := 44) zo_163_33 rfl (zcm_eq c5) ?_
      refine ev_iconst (x := 0) zo_163_44 (by decide) rfl ?_
      refine ev_istore_n zo_163_45 rfl (zz_set rfl (by decide) (Nat.le_of_ble_eq_true rfl)) rfl ?_
      show zzEv _ _ _ [.ref 46, .int (0 : Int32), .int q4.1] _ _ _
      refine ev_goto (t := 5) zo_163_46 rfl ?_
      exact ih (0 : Int32) q4.2 r h (.int q4.1) rfl
    rw [if_neg c5] at h
    refine ev_if_f (t := 44) zo_163_33 rfl (zcm_neq c5) rfl ?_
    refine ev_iload_n zo_163_36 rfl rfl rfl ?_
    by_cases c6 : q4.1 = (0 : Int32)
    · rw [if_pos c6] at h
      refine ev_if_t (t := 44) zo_163_37 rfl (zcm_eq c6) ?_
      refine ev_iconst (x := 0) zo_163_44 (by decide) rfl ?_
      refine ev_istore_n zo_163_45 rfl (zz_set rfl (by decide) (Nat.le_of_ble_eq_true rfl)) rfl ?_
      show zzEv _ _ _ [.ref 46, .int (0 : Int32), .int q4.1] _ _ _
      refine ev_goto (t := 5) zo_163_46 rfl ?_
      exact ih (0 : Int32) q4.2 r h (.int q4.1) rfl
    rw [if_neg c6] at h
    refine ev_if_f (t := 44) zo_163_37 rfl (zcm_neq c6) rfl ?_
    refine ev_iconst (x := 1) zo_163_40 (by decide) rfl ?_
    refine ev_goto (t := 45) zo_163_41 rfl ?_
    refine ev_istore_n zo_163_45 rfl (zz_set rfl (by decide) (Nat.le_of_ble_eq_true rfl)) rfl ?_
    show zzEv _ _ _ [.ref 46, .int (1 : Int32), .int q4.1] _ _ _
    refine ev_goto (t := 5) zo_163_46 rfl ?_
    exact ih (1 : Int32) q4.2 r h (.int q4.1) rfl
def F_X7_both (k_X7_atom : zzJ → Option (Int32 × zzJ)) (k_X7_not : zzJ → Option (Int32 × zzJ)) (k_X7_either : zzJ → Option (Int32 × zzJ)) (J : zzJ) : Option (Int32 × zzJ) := (Option.bind (F_X7_not k_X7_atom k_X7_not k_X7_either J) fun q7 => F_X7_both_5 k_X7_atom k_X7_not k_X7_either 4096 q7.1 q7.2)
set_option maxRecDepth 100000 in
set_option maxHeartbeats 2000000 in
theorem G_X7_both {D d : Nat} (k_X7_atom : zzJ → Option (Int32 × zzJ)) (k_X7_not : zzJ → Option (Int32 × zzJ)) (k_X7_either : zzJ → Option (Int32 × zzJ)) (hk_X7_atom : ∀ dd, D ≤ dd → ∀ (J : zzJ) (q : Int32 × zzJ), k_X7_atom J = some q → zzEv dd 159 0 [.ref 46, zzU] [] (zK J) (some (.int q.1), zK q.2)) (hk_X7_not : ∀ dd, D ≤ dd → ∀ (J : zzJ) (q : Int32 × zzJ), k_X7_not J = some q → zzEv dd 162 0 [.ref 46, zzU, zzU, zzU] [] (zK J) (some (.int q.1), zK q.2)) (hk_X7_either : ∀ dd, D ≤ dd → ∀ (J : zzJ) (q : Int32 × zzJ), k_X7_either J = some q → zzEv dd 164 0 [.ref 46, zzU, zzU] [] (zK J) (some (.int q.1), zK q.2)) (hd : D + 8 ≤ d) (J : zzJ) (r : Int32 × zzJ) (h : F_X7_both k_X7_atom k_X7_not k_X7_either J = some r) : zzEv d 163 0 [.ref 46, zzU, zzU] [] (zK J) (some (.int r.1), zK r.2) := by
  unfold F_X7_both at h
  refine ev_aload_n zo_163_0 rfl rfl rfl rfl ?_
  obtain ⟨q7, hq7, h⟩ := zz_bd h
  refine ev_cV (as := []) (lsn := [.ref 46, zzU, zzU, zzU]) (by omega) zo_163_1 zl_163_247 (by rw [zm_162]; rfl) (by rw [zm_162]; exact rfl) (by rw [zm_162]; decide) (by unfold zzIn; rw [zm_162]; rfl) (by rw [zm_162]; exact Nat.le_of_ble_eq_true rfl) (Nat.le_of_ble_eq_true rfl) (G_X7_not k_X7_atom k_X7_not k_X7_either hk_X7_atom hk_X7_not hk_X7_either (by omega) J q7 hq7) rfl ?_
  show zzEv _ _ _ _ [.int q7.1] _ _
  refine ev_istore_n zo_163_4 rfl (zz_set rfl (by decide) (Nat.le_of_ble_eq_true rfl)) rfl ?_
  show zzEv _ _ _ [.ref 46, .int q7.1, zzU] _ _ _
  exact G_X7_both_5 k_X7_atom k_X7_not k_X7_either hk_X7_atom hk_X7_not hk_X7_either hd 4096 q7.1 q7.2 r h (zzU) rfl
/-! X7_either -/
def F_X7_either_5 (k_X7_atom : zzJ → Option (Int32 × zzJ)) (k_X7_not : zzJ → Option (Int32 × zzJ)) (k_X7_either : zzJ → Option (Int32 × zzJ)) : Nat → Int32 → zzJ → Option (Int32 × zzJ)
  | 0, _, _ => none
  | n + 1, l1, J => (Option.bind (F_X7_isWord (111 : Int32) (114 : Int32) (0 : Int32) (0 : Int32) (0 : Int32) (0 : Int32) (0 : Int32) (0 : Int32) J) fun q1 => (if q1.1 = (0 : Int32) then some (l1, q1.2) else (Option.bind (F_X7_next q1.2) fun q3 => (Option.bind (F_X7_both k_X7_atom k_X7_not k_X7_either q3) fun q4 => (if l1 = (0 : Int32) then (if q4.1 = (0 : Int32) then F_X7_either_5 k_X7_atom k_X7_not k_X7_either n (0 : Int32) q4.2 else F_X7_either_5 k_X7_atom k_X7_not k_X7_either n (1 : Int32) q4.2) else F_X7_either_5 k_X7_atom k_X7_not k_X7_either n (1 : Int32) q4.2)))))
set_option maxRecDepth 100000 in
set_option maxHeartbeats 2000000 in
theorem G_X7_either_5 {D d : Nat} (k_X7_atom : zzJ → Option (Int32 × zzJ)) (k_X7_not : zzJ → Option (Int32 × zzJ)) (k_X7_either : zzJ → Option (Int32 × zzJ)) (hk_X7_atom : ∀ dd, D ≤ dd → ∀ (J : zzJ) (q : Int32 × zzJ), k_X7_atom J = some q → zzEv dd 159 0 [.ref 46, zzU] [] (zK J) (some (.int q.1), zK q.2)) (hk_X7_not : ∀ dd, D ≤ dd → ∀ (J : zzJ) (q : Int32 × zzJ), k_X7_not J = some q → zzEv dd 162 0 [.ref 46, zzU, zzU, zzU] [] (zK J) (some (.int q.1), zK q.2)) (hk_X7_either : ∀ dd, D ≤ dd → ∀ (J : zzJ) (q : Int32 × zzJ), k_X7_either J = some q → zzEv dd 164 0 [.ref 46, zzU, zzU] [] (zK J) (some (.int q.1), zK q.2)) (hd : D + 9 ≤ d) : ∀ (n : Nat) (l1 : Int32) (J : zzJ) (r : Int32 × zzJ), F_X7_either_5 k_X7_atom k_X7_not k_X7_either n l1 J = some r → ∀ (lv2 : Value) (hlv2 : lv2.category = 1), zzEv d 164 5 [.ref 46, .int l1, lv2] [] (zK J) (some (.int r.1), zK r.2) := by
  intro n
  induction n with
  | zero => intro l1 J r h; simp [F_X7_either_5] at h
  | succ n ih =>
    intro l1 J r h lv2 hlv2
    rw [F_X7_either_5] at h
    refine ev_aload_n zo_164_5 rfl rfl rfl rfl ?_
    refine ev_bipush (x := 111) zo_164_6 (by decide) rfl ?_
    refine ev_bipush (x := 114) zo_164_8 (by decide) rfl ?_
    refine ev_iconst (x := 0) zo_164_10 (by decide) rfl ?_
    refine ev_iconst (x := 0) zo_164_11 (by decide) rfl ?_
    refine ev_iconst (x := 0) zo_164_12 (by decide) rfl ?_
    refine ev_iconst (x := 0) zo_164_13 (by decide) rfl ?_
    refine ev_iconst (x := 0) zo_164_14 (by decide) rfl ?_
    refine ev_iconst (x := 0) zo_164_15 (by decide) rfl ?_
    obtain ⟨q1, hq1, h⟩ := zz_bd h
    refine ev_cV (as := [.int (0 : Int32), .int (0 : Int32), .int (0 : Int32), .int (0 : Int32), .int (0 : Int32), .int (0 : Int32), .int (114 : Int32), .int (111 : Int32)]) (lsn := [.ref 46, .int (111 : Int32), .int (114 : Int32), .int (0 : Int32), .int (0 : Int32), .int (0 : Int32), .int (0 : Int32), .int (0 : Int32), .int (0 : Int32)]) (by omega) zo_164_16 zl_164_203 (by rw [zm_155]; rfl) (by rw [zm_155]; exact rfl) (by rw [zm_155]; decide) (by unfold zzIn; rw [zm_155]; rfl) (by rw [zm_155]; exact Nat.le_of_ble_eq_true rfl) (Nat.le_of_ble_eq_true rfl) (G_X7_isWord (by omega) (111 : Int32) (114 : Int32) (0 : Int32) (0 : Int32) (0 : Int32) (0 : Int32) (0 : Int32) (0 : Int32) J q1 hq1) rfl ?_
    show zzEv _ _ _ _ [.int q1.1] _ _
    by_cases c2 : q1.1 = (0 : Int32)
    · rw [if_pos c2] at h
      refine ev_if_t (t := 48) zo_164_19 rfl (zcm_eq c2) ?_
      refine ev_iload_n zo_164_48 rfl rfl rfl ?_
      obtain rfl := Option.some.inj h
      exact ev_retI zo_164_49 zr_164
    rw [if_neg c2] at h
    refine ev_if_f (t := 48) zo_164_19 rfl (zcm_neq c2) rfl ?_
    refine ev_aload_n zo_164_22 rfl rfl rfl rfl ?_
    obtain ⟨q3, hq3, h⟩ := zz_bd h
    refine ev_cV (as := []) (lsn := [.ref 46, zzU, zzU]) (by omega) zo_164_23 zl_164_200 (by rw [zm_152]; rfl) (by rw [zm_152]; exact rfl) (by rw [zm_152]; decide) (by unfold zzIn; rw [zm_152]; rfl) (by rw [zm_152]; exact Nat.le_of_ble_eq_true rfl) (Nat.le_of_ble_eq_true rfl) (G_X7_next (by omega) q1.2 q3 hq3) rfl ?_
    show zzEv _ _ _ _ [] _ _
    refine ev_aload_n zo_164_26 rfl rfl rfl rfl ?_
    obtain ⟨q4, hq4, h⟩ := zz_bd h
    refine ev_cV (as := []) (lsn := [.ref 46, zzU, zzU]) (by omega) zo_164_27 zl_164_255 (by rw [zm_163]; rfl) (by rw [zm_163]; exact rfl) (by rw [zm_163]; decide) (by unfold zzIn; rw [zm_163]; rfl) (by rw [zm_163]; exact Nat.le_of_ble_eq_true rfl) (Nat.le_of_ble_eq_true rfl) (G_X7_both k_X7_atom k_X7_not k_X7_either hk_X7_atom hk_X7_not hk_X7_either (by omega) q3 q4 hq4) rfl ?_
    show zzEv _ _ _ _ [.int q4.1] _ _
    refine ev_istore_n zo_164_30 rfl (zz_set rfl (by decide) (Nat.le_of_ble_eq_true rfl)) rfl ?_
    show zzEv _ _ _ [.ref 46, .int l1, .int q4.1] _ _ _
    refine ev_iload_n zo_164_31 rfl rfl rfl ?_
    by_cases c5 : l1 = (0 : Int32)
    · rw [if_pos c5] at h
      refine ev_if_f (t := 39) zo_164_32 rfl (zcm_nne c5) rfl ?_
      refine ev_iload_n zo_164_35 rfl rfl rfl ?_
      by_cases c6 : q4.1 = (0 : Int32)
      · rw [if_pos c6] at h
        refine ev_if_t (t := 43) zo_164_36 rfl (zcm_eq c6) ?_
        refine ev_iconst (x := 0) zo_164_43 (by decide) rfl ?_
        refine ev_istore_n zo_164_44 rfl (zz_set rfl (by decide) (Nat.le_of_ble_eq_true rfl)) rfl ?_
        show zzEv _ _ _ [.ref 46, .int (0 : Int32), .int q4.1] _ _ _
        refine ev_goto (t := 5) zo_164_45 rfl ?_
        exact ih (0 : Int32) q4.2 r h (.int q4.1) rfl
      rw [if_neg c6] at h
      refine ev_if_f (t := 43) zo_164_36 rfl (zcm_neq c6) rfl ?_
      refine ev_iconst (x := 1) zo_164_39 (by decide) rfl ?_
      refine ev_goto (t := 44) zo_164_40 rfl ?_
      refine ev_istore_n zo_164_44 rfl (zz_set rfl (by decide) (Nat.le_of_ble_eq_true rfl)) rfl ?_
      show zzEv _ _ _ [.ref 46, .int (1 : Int32), .int q4.1] _ _ _
      refine ev_goto (t := 5) zo_164_45 rfl ?_
      exact ih (1 : Int32) q4.2 r h (.int q4.1) rfl
    rw [if_neg c5] at h
    refine ev_if_t (t := 39) zo_164_32 rfl (zcm_ne c5) ?_
    refine ev_iconst (x := 1) zo_164_39 (by decide) rfl ?_
    refine ev_goto (t := 44) zo_164_40 rfl ?_
    refine ev_istore_n zo_164_44 rfl (zz_set rfl (by decide) (Nat.le_of_ble_eq_true rfl)) rfl ?_
    show zzEv _ _ _ [.ref 46, .int (1 : Int32), .int q4.1] _ _ _
    refine ev_goto (t := 5) zo_164_45 rfl ?_
    exact ih (1 : Int32) q4.2 r h (.int q4.1) rfl
def F_X7_either (k_X7_atom : zzJ → Option (Int32 × zzJ)) (k_X7_not : zzJ → Option (Int32 × zzJ)) (k_X7_either : zzJ → Option (Int32 × zzJ)) (J : zzJ) : Option (Int32 × zzJ) := (Option.bind (F_X7_both k_X7_atom k_X7_not k_X7_either J) fun q7 => F_X7_either_5 k_X7_atom k_X7_not k_X7_either 4096 q7.1 q7.2)
set_option maxRecDepth 100000 in
set_option maxHeartbeats 2000000 in
theorem G_X7_either {D d : Nat} (k_X7_atom : zzJ → Option (Int32 × zzJ)) (k_X7_not : zzJ → Option (Int32 × zzJ)) (k_X7_either : zzJ → Option (Int32 × zzJ)) (hk_X7_atom : ∀ dd, D ≤ dd → ∀ (J : zzJ) (q : Int32 × zzJ), k_X7_atom J = some q → zzEv dd 159 0 [.ref 46, zzU] [] (zK J) (some (.int q.1), zK q.2)) (hk_X7_not : ∀ dd, D ≤ dd → ∀ (J : zzJ) (q : Int32 × zzJ), k_X7_not J = some q → zzEv dd 162 0 [.ref 46, zzU, zzU, zzU] [] (zK J) (some (.int q.1), zK q.2)) (hk_X7_either : ∀ dd, D ≤ dd → ∀ (J : zzJ) (q : Int32 × zzJ), k_X7_either J = some q → zzEv dd 164 0 [.ref 46, zzU, zzU] [] (zK J) (some (.int q.1), zK q.2)) (hd : D + 9 ≤ d) (J : zzJ) (r : Int32 × zzJ) (h : F_X7_either k_X7_atom k_X7_not k_X7_either J = some r) : zzEv d 164 0 [.ref 46, zzU, zzU] [] (zK J) (some (.int r.1), zK r.2) := by
  unfold F_X7_either at h
  refine ev_aload_n zo_164_0 rfl rfl rfl rfl ?_
  obtain ⟨q7, hq7, h⟩ := zz_bd h
  refine ev_cV (as := []) (lsn := [.ref 46, zzU, zzU]) (by omega) zo_164_1 zl_164_255 (by rw [zm_163]; rfl) (by rw [zm_163]; exact rfl) (by rw [zm_163]; decide) (by unfold zzIn; rw [zm_163]; rfl) (by rw [zm_163]; exact Nat.le_of_ble_eq_true rfl) (Nat.le_of_ble_eq_true rfl) (G_X7_both k_X7_atom k_X7_not k_X7_either hk_X7_atom hk_X7_not hk_X7_either (by omega) J q7 hq7) rfl ?_
  show zzEv _ _ _ _ [.int q7.1] _ _
  refine ev_istore_n zo_164_4 rfl (zz_set rfl (by decide) (Nat.le_of_ble_eq_true rfl)) rfl ?_
  show zzEv _ _ _ [.ref 46, .int q7.1, zzU] _ _ _
  exact G_X7_either_5 k_X7_atom k_X7_not k_X7_either hk_X7_atom hk_X7_not hk_X7_either hd 4096 q7.1 q7.2 r h (zzU) rfl
def R_X7_atom : Nat → (zzJ → Option (Int32 × zzJ)) × (zzJ → Option (Int32 × zzJ)) × (zzJ → Option (Int32 × zzJ))
  | 0 => (fun _ => none, fun _ => none, fun _ => none)
  | n + 1 => (F_X7_atom ((R_X7_atom n).1) ((R_X7_atom n).2.1) ((R_X7_atom n).2.2), F_X7_not ((R_X7_atom n).1) ((R_X7_atom n).2.1) ((R_X7_atom n).2.2), F_X7_either ((R_X7_atom n).1) ((R_X7_atom n).2.1) ((R_X7_atom n).2.2))
theorem RG_X7_atom : ∀ n : Nat, (∀ dd, n * 10 ≤ dd → ∀ (J : zzJ) (q : Int32 × zzJ), ((R_X7_atom n).1) J = some q → zzEv dd 159 0 [.ref 46, zzU] [] (zK J) (some (.int q.1), zK q.2)) ∧ (∀ dd, n * 10 ≤ dd → ∀ (J : zzJ) (q : Int32 × zzJ), ((R_X7_atom n).2.1) J = some q → zzEv dd 162 0 [.ref 46, zzU, zzU, zzU] [] (zK J) (some (.int q.1), zK q.2)) ∧ (∀ dd, n * 10 ≤ dd → ∀ (J : zzJ) (q : Int32 × zzJ), ((R_X7_atom n).2.2) J = some q → zzEv dd 164 0 [.ref 46, zzU, zzU] [] (zK J) (some (.int q.1), zK q.2)) := by
  intro n
  induction n with
  | zero => exact ⟨fun _ _ _ _ h => absurd h (by simp [R_X7_atom]), fun _ _ _ _ h => absurd h (by simp [R_X7_atom]), fun _ _ _ _ h => absurd h (by simp [R_X7_atom])⟩
  | succ n ih =>
    exact ⟨fun dd hdd J q h => G_X7_atom ((R_X7_atom n).1) ((R_X7_atom n).2.1) ((R_X7_atom n).2.2) ih.1 ih.2.1 ih.2.2 (by rw [Nat.succ_mul] at hdd; omega) J q h, fun dd hdd J q h => G_X7_not ((R_X7_atom n).1) ((R_X7_atom n).2.1) ((R_X7_atom n).2.2) ih.1 ih.2.1 ih.2.2 (by rw [Nat.succ_mul] at hdd; omega) J q h, fun dd hdd J q h => G_X7_either ((R_X7_atom n).1) ((R_X7_atom n).2.1) ((R_X7_atom n).2.2) ih.1 ih.2.1 ih.2.2 (by rw [Nat.succ_mul] at hdd; omega) J q h⟩
def E_X7_atom (J : zzJ) : Option (Int32 × zzJ) := F_X7_atom ((R_X7_atom 8).1) ((R_X7_atom 8).2.1) ((R_X7_atom 8).2.2) J
theorem EG_X7_atom {d : Nat} (hd : 84 ≤ d) (J : zzJ) (r : Int32 × zzJ) (h : E_X7_atom J = some r) : zzEv d 159 0 [.ref 46, zzU] [] (zK J) (some (.int r.1), zK r.2) := G_X7_atom ((R_X7_atom 8).1) ((R_X7_atom 8).2.1) ((R_X7_atom 8).2.2) (RG_X7_atom 8).1 (RG_X7_atom 8).2.1 (RG_X7_atom 8).2.2 (by omega) J r h
def E_X7_term (J : zzJ) : Option (Int32 × zzJ) := F_X7_term ((R_X7_atom 8).1) ((R_X7_atom 8).2.1) ((R_X7_atom 8).2.2) J
theorem EG_X7_term {d : Nat} (hd : 85 ≤ d) (J : zzJ) (r : Int32 × zzJ) (h : E_X7_term J = some r) : zzEv d 160 0 [.ref 46, zzU] [] (zK J) (some (.int r.1), zK r.2) := G_X7_term ((R_X7_atom 8).1) ((R_X7_atom 8).2.1) ((R_X7_atom 8).2.2) (RG_X7_atom 8).1 (RG_X7_atom 8).2.1 (RG_X7_atom 8).2.2 (by omega) J r h
def E_X7_added (J : zzJ) : Option (Int32 × zzJ) := F_X7_added ((R_X7_atom 8).1) ((R_X7_atom 8).2.1) ((R_X7_atom 8).2.2) J
theorem EG_X7_added {d : Nat} (hd : 86 ≤ d) (J : zzJ) (r : Int32 × zzJ) (h : E_X7_added J = some r) : zzEv d 161 0 [.ref 46, zzU, zzU, zzU] [] (zK J) (some (.int r.1), zK r.2) := G_X7_added ((R_X7_atom 8).1) ((R_X7_atom 8).2.1) ((R_X7_atom 8).2.2) (RG_X7_atom 8).1 (RG_X7_atom 8).2.1 (RG_X7_atom 8).2.2 (by omega) J r h
def E_X7_not (J : zzJ) : Option (Int32 × zzJ) := F_X7_not ((R_X7_atom 8).1) ((R_X7_atom 8).2.1) ((R_X7_atom 8).2.2) J
theorem EG_X7_not {d : Nat} (hd : 87 ≤ d) (J : zzJ) (r : Int32 × zzJ) (h : E_X7_not J = some r) : zzEv d 162 0 [.ref 46, zzU, zzU, zzU] [] (zK J) (some (.int r.1), zK r.2) := G_X7_not ((R_X7_atom 8).1) ((R_X7_atom 8).2.1) ((R_X7_atom 8).2.2) (RG_X7_atom 8).1 (RG_X7_atom 8).2.1 (RG_X7_atom 8).2.2 (by omega) J r h
def E_X7_both (J : zzJ) : Option (Int32 × zzJ) := F_X7_both ((R_X7_atom 8).1) ((R_X7_atom 8).2.1) ((R_X7_atom 8).2.2) J
theorem EG_X7_both {d : Nat} (hd : 88 ≤ d) (J : zzJ) (r : Int32 × zzJ) (h : E_X7_both J = some r) : zzEv d 163 0 [.ref 46, zzU, zzU] [] (zK J) (some (.int r.1), zK r.2) := G_X7_both ((R_X7_atom 8).1) ((R_X7_atom 8).2.1) ((R_X7_atom 8).2.2) (RG_X7_atom 8).1 (RG_X7_atom 8).2.1 (RG_X7_atom 8).2.2 (by omega) J r h
def E_X7_either (J : zzJ) : Option (Int32 × zzJ) := F_X7_either ((R_X7_atom 8).1) ((R_X7_atom 8).2.1) ((R_X7_atom 8).2.2) J
theorem EG_X7_either {d : Nat} (hd : 89 ≤ d) (J : zzJ) (r : Int32 × zzJ) (h : E_X7_either J = some r) : zzEv d 164 0 [.ref 46, zzU, zzU] [] (zK J) (some (.int r.1), zK r.2) := G_X7_either ((R_X7_atom 8).1) ((R_X7_atom 8).2.1) ((R_X7_atom 8).2.2) (RG_X7_atom 8).1 (RG_X7_atom 8).2.1 (RG_X7_atom 8).2.2 (by omega) J r h
/-! X7_part -/
def F_X7_part_48 (l2 : Int32) (J : zzJ) : Option (Int32 × zzJ) := (if (J.2 46 28) = (0 : Int32) then (Option.bind (F_X7_next J) fun q2 => some (l2, q2)) else some (l2, J))
set_option maxRecDepth 100000 in
set_option maxHeartbeats 2000000 in
theorem G_X7_part_48 {d : Nat} (hd : 90 ≤ d) : ∀ (l2 : Int32) (J : zzJ) (r : Int32 × zzJ), F_X7_part_48 l2 J = some r → ∀ (lv1 : Value) (hlv1 : lv1.category = 1), zzEv d 165 48 [.ref 46, lv1, .int l2] [] (zK J) (some (.int r.1), zK r.2) := by
  intro l2 J r h lv1 hlv1
  unfold F_X7_part_48 at h
  refine ev_aload_n zo_165_48 rfl rfl rfl rfl ?_
  refine ev_getI zo_165_49 zf_165_183 (by decide) (Or.inr rfl) rfl rfl ?_
  by_cases c1 : (J.2 46 28) = (0 : Int32)
  · rw [if_pos c1] at h
    refine ev_if_f (t := 59) zo_165_52 rfl (zcm_nne c1) rfl ?_
    refine ev_aload_n zo_165_55 rfl rfl rfl rfl ?_
    obtain ⟨q2, hq2, h⟩ := zz_bd h
    refine ev_cV (as := []) (lsn := [.ref 46, zzU, zzU]) (by omega) zo_165_56 zl_165_200 (by rw [zm_152]; rfl) (by rw [zm_152]; exact rfl) (by rw [zm_152]; decide) (by unfold zzIn; rw [zm_152]; rfl) (by rw [zm_152]; exact Nat.le_of_ble_eq_true rfl) (Nat.le_of_ble_eq_true rfl) (G_X7_next (by omega) J q2 hq2) rfl ?_
    show zzEv _ _ _ _ [] _ _
    refine ev_iload_n zo_165_59 rfl rfl rfl ?_
    obtain rfl := Option.some.inj h
    exact ev_retI zo_165_60 zr_165
  rw [if_neg c1] at h
  refine ev_if_t (t := 59) zo_165_52 rfl (zcm_ne c1) ?_
  refine ev_iload_n zo_165_59 rfl rfl rfl ?_
  obtain rfl := Option.some.inj h
  exact ev_retI zo_165_60 zr_165
def F_X7_part_34 (t0 : Int32) (J : zzJ) : Option (Int32 × zzJ) := (Option.bind (F_X7_isSign (59 : Int32) J) fun q3 => (if q3.1 = (0 : Int32) then (Option.bind (F_X7_fail q3.2) fun q5 => F_X7_part_48 t0 q5) else F_X7_part_48 t0 q3.2))
set_option maxRecDepth 100000 in
set_option maxHeartbeats 2000000 in
theorem G_X7_part_34 {d : Nat} (hd : 90 ≤ d) : ∀ (t0 : Int32) (J : zzJ) (r : Int32 × zzJ), F_X7_part_34 t0 J = some r → ∀ (lv1 : Value) (hlv1 : lv1.category = 1), zzEv d 165 34 [.ref 46, lv1, zzU] [.int t0] (zK J) (some (.int r.1), zK r.2) := by
  intro t0 J r h lv1 hlv1
  unfold F_X7_part_34 at h
  refine ev_istore_n zo_165_34 rfl (zz_set (zz_lg (j := 1) rfl hlv1) (by decide) (Nat.le_of_ble_eq_true rfl)) rfl ?_
  show zzEv _ _ _ [.ref 46, lv1, .int t0] _ _ _
  refine ev_aload_n zo_165_35 rfl rfl rfl rfl ?_
  refine ev_bipush (x := 59) zo_165_36 (by decide) rfl ?_
  obtain ⟨q3, hq3, h⟩ := zz_bd h
  refine ev_cV (as := [.int (59 : Int32)]) (lsn := [.ref 46, .int (59 : Int32)]) (by omega) zo_165_38 zl_165_225 (by rw [zm_156]; rfl) (by rw [zm_156]; exact rfl) (by rw [zm_156]; decide) (by unfold zzIn; rw [zm_156]; rfl) (by rw [zm_156]; exact Nat.le_of_ble_eq_true rfl) (Nat.le_of_ble_eq_true rfl) (G_X7_isSign (by omega) (59 : Int32) J q3 hq3) rfl ?_
  show zzEv _ _ _ _ [.int q3.1] _ _
  by_cases c4 : q3.1 = (0 : Int32)
  · rw [if_pos c4] at h
    refine ev_if_f (t := 48) zo_165_41 rfl (zcm_nne c4) rfl ?_
    refine ev_aload_n zo_165_44 rfl rfl rfl rfl ?_
    obtain ⟨q5, hq5, h⟩ := zz_bd h
    refine ev_cV (as := []) (lsn := [.ref 46]) (by omega) zo_165_45 zl_165_197 (by rw [zm_153]; rfl) (by rw [zm_153]; exact rfl) (by rw [zm_153]; decide) (by unfold zzIn; rw [zm_153]; rfl) (by rw [zm_153]; exact Nat.le_of_ble_eq_true rfl) (Nat.le_of_ble_eq_true rfl) (G_X7_fail (by omega) q3.2 q5 hq5) rfl ?_
    show zzEv _ _ _ _ [] _ _
    exact G_X7_part_48 hd t0 q5 r h (lv1) hlv1
  rw [if_neg c4] at h
  refine ev_if_t (t := 48) zo_165_41 rfl (zcm_ne c4) ?_
  exact G_X7_part_48 hd t0 q3.2 r h (lv1) hlv1
def F_X7_part_19 (J : zzJ) : Option (Int32 × zzJ) := (if (J.2 46 28) = (0 : Int32) then (Option.bind (E_X7_either J) fun q7 => F_X7_part_34 q7.1 q7.2) else F_X7_part_34 (0 : Int32) J)
set_option maxRecDepth 100000 in
set_option maxHeartbeats 2000000 in
theorem G_X7_part_19 {d : Nat} (hd : 90 ≤ d) : ∀ (J : zzJ) (r : Int32 × zzJ), F_X7_part_19 J = some r → ∀ (lv1 : Value) (hlv1 : lv1.category = 1), zzEv d 165 19 [.ref 46, lv1, zzU] [] (zK J) (some (.int r.1), zK r.2) := by
  intro J r h lv1 hlv1
  unfold F_X7_part_19 at h
  refine ev_aload_n zo_165_19 rfl rfl rfl rfl ?_
  refine ev_getI zo_165_20 zf_165_183 (by decide) (Or.inr rfl) rfl rfl ?_
  by_cases c6 : (J.2 46 28) = (0 : Int32)
  · rw [if_pos c6] at h
    refine ev_if_t (t := 30) zo_165_23 rfl (zcm_eq c6) ?_
    refine ev_aload_n zo_165_30 rfl rfl rfl rfl ?_
    obtain ⟨q7, hq7, h⟩ := zz_bd h
    refine ev_cV (as := []) (lsn := [.ref 46, zzU, zzU]) (by omega) zo_165_31 zl_165_236 (by rw [zm_164]; rfl) (by rw [zm_164]; exact rfl) (by rw [zm_164]; decide) (by unfold zzIn; rw [zm_164]; rfl) (by rw [zm_164]; exact Nat.le_of_ble_eq_true rfl) (Nat.le_of_ble_eq_true rfl) (EG_X7_either (by omega) J q7 hq7) rfl ?_
    show zzEv _ _ _ _ [.int q7.1] _ _
    exact G_X7_part_34 hd q7.1 q7.2 r h (lv1) hlv1
  rw [if_neg c6] at h
  refine ev_if_f (t := 30) zo_165_23 rfl (zcm_neq c6) rfl ?_
  refine ev_iconst (x := 0) zo_165_26 (by decide) rfl ?_
  refine ev_goto (t := 34) zo_165_27 rfl ?_
  exact G_X7_part_34 hd (0 : Int32) J r h (lv1) hlv1
def F_X7_part_8 (J : zzJ) : Option (Int32 × zzJ) := (if (J.2 46 28) = (0 : Int32) then (Option.bind (F_X7_next J) fun q9 => F_X7_part_19 q9) else F_X7_part_19 J)
set_option maxRecDepth 100000 in
set_option maxHeartbeats 2000000 in
theorem G_X7_part_8 {d : Nat} (hd : 90 ≤ d) : ∀ (J : zzJ) (r : Int32 × zzJ), F_X7_part_8 J = some r → ∀ (lv1 : Value) (hlv1 : lv1.category = 1), zzEv d 165 8 [.ref 46, lv1, zzU] [] (zK J) (some (.int r.1), zK r.2) := by
  intro J r h lv1 hlv1
  unfold F_X7_part_8 at h
  refine ev_aload_n zo_165_8 rfl rfl rfl rfl ?_
  refine ev_getI zo_165_9 zf_165_183 (by decide) (Or.inr rfl) rfl rfl ?_
  by_cases c8 : (J.2 46 28) = (0 : Int32)
  · rw [if_pos c8] at h
    refine ev_if_f (t := 19) zo_165_12 rfl (zcm_nne c8) rfl ?_
    refine ev_aload_n zo_165_15 rfl rfl rfl rfl ?_
    obtain ⟨q9, hq9, h⟩ := zz_bd h
    refine ev_cV (as := []) (lsn := [.ref 46, zzU, zzU]) (by omega) zo_165_16 zl_165_200 (by rw [zm_152]; rfl) (by rw [zm_152]; exact rfl) (by rw [zm_152]; decide) (by unfold zzIn; rw [zm_152]; rfl) (by rw [zm_152]; exact Nat.le_of_ble_eq_true rfl) (Nat.le_of_ble_eq_true rfl) (G_X7_next (by omega) J q9 hq9) rfl ?_
    show zzEv _ _ _ _ [] _ _
    exact G_X7_part_19 hd q9 r h (lv1) hlv1
  rw [if_neg c8] at h
  refine ev_if_t (t := 19) zo_165_12 rfl (zcm_ne c8) ?_
  exact G_X7_part_19 hd J r h (lv1) hlv1
def F_X7_part (x1 : Int32) (J : zzJ) : Option (Int32 × zzJ) := (if x1 = (0 : Int32) then (Option.bind (F_X7_fail J) fun q11 => F_X7_part_8 q11) else F_X7_part_8 J)
set_option maxRecDepth 100000 in
set_option maxHeartbeats 2000000 in
theorem G_X7_part {d : Nat} (hd : 90 ≤ d) (x1 : Int32) (J : zzJ) (r : Int32 × zzJ) (h : F_X7_part x1 J = some r) : zzEv d 165 0 [.ref 46, .int x1, zzU] [] (zK J) (some (.int r.1), zK r.2) := by
  unfold F_X7_part at h
  refine ev_iload_n zo_165_0 rfl rfl rfl ?_
  by_cases c10 : x1 = (0 : Int32)
  · rw [if_pos c10] at h
    refine ev_if_f (t := 8) zo_165_1 rfl (zcm_nne c10) rfl ?_
    refine ev_aload_n zo_165_4 rfl rfl rfl rfl ?_
    obtain ⟨q11, hq11, h⟩ := zz_bd h
    refine ev_cV (as := []) (lsn := [.ref 46]) (by omega) zo_165_5 zl_165_197 (by rw [zm_153]; rfl) (by rw [zm_153]; exact rfl) (by rw [zm_153]; decide) (by unfold zzIn; rw [zm_153]; rfl) (by rw [zm_153]; exact Nat.le_of_ble_eq_true rfl) (Nat.le_of_ble_eq_true rfl) (G_X7_fail (by omega) J q11 hq11) rfl ?_
    show zzEv _ _ _ _ [] _ _
    exact G_X7_part_8 hd q11 r h (.int x1) rfl
  rw [if_neg c10] at h
  refine ev_if_t (t := 8) zo_165_1 rfl (zcm_ne c10) ?_
  exact G_X7_part_8 hd J r h (.int x1) rfl
/-! X7_read -/
def F_X7_read_146 (l2 : Int32) (l3 : Int32) (l4 : Int32) (l5 : Int32) (J : zzJ) : Option (Int32 × zzJ) := (if l2 = (0 : Int32) then some (l3, J) else (if l2 = (1 : Int32) then some (l4, J) else some (l5, J)))
set_option maxRecDepth 100000 in
set_option maxHeartbeats 2000000 in
theorem G_X7_read_146 {d : Nat} (hd : 91 ≤ d) : ∀ (l2 : Int32) (l3 : Int32) (l4 : Int32) (l5 : Int32) (J : zzJ) (r : Int32 × zzJ), F_X7_read_146 l2 l3 l4 l5 J = some r → ∀ (lv1 : Value) (hlv1 : lv1.category = 1), zzEv d 166 146 [.ref 46, lv1, .int l2, .int l3, .int l4, .int l5] [] (zK J) (some (.int r.1), zK r.2) := by
  intro l2 l3 l4 l5 J r h lv1 hlv1
  unfold F_X7_read_146 at h
  refine ev_iload_n zo_166_146 rfl rfl rfl ?_
  by_cases c1 : l2 = (0 : Int32)
  · rw [if_pos c1] at h
    refine ev_if_f (t := 154) zo_166_147 rfl (zcm_nne c1) rfl ?_
    refine ev_iload_n zo_166_150 rfl rfl rfl ?_
    refine ev_goto (t := 166) zo_166_151 rfl ?_
    obtain rfl := Option.some.inj h
    exact ev_retI zo_166_166 zr_166
  rw [if_neg c1] at h
  refine ev_if_t (t := 154) zo_166_147 rfl (zcm_ne c1) ?_
  refine ev_iload_n zo_166_154 rfl rfl rfl ?_
  refine ev_iconst (x := 1) zo_166_155 (by decide) rfl ?_
  by_cases c2 : l2 = (1 : Int32)
  · rw [if_pos c2] at h
    refine ev_cmp_f (t := 164) zo_166_156 rfl (zcm_nne c2) rfl ?_
    refine ev_iload zo_166_159 rfl rfl ?_
    refine ev_goto (t := 166) zo_166_161 rfl ?_
    obtain rfl := Option.some.inj h
    exact ev_retI zo_166_166 zr_166
  rw [if_neg c2] at h
  refine ev_cmp_t (t := 164) zo_166_156 rfl (zcm_ne c2) ?_
  refine ev_iload zo_166_164 rfl rfl ?_
  obtain rfl := Option.some.inj h
  exact ev_retI zo_166_166 zr_166
def F_X7_read_126 (l2 : Int32) (l3 : Int32) (l4 : Int32) (t0 : Int32) (J : zzJ) : Option (Int32 × zzJ) := (if (J.2 46 28) = (0 : Int32) then (if (J.2 46 24) = (0 : Int32) then F_X7_read_146 l2 l3 l4 t0 J else (Option.bind (F_X7_fail J) fun q5 => F_X7_read_146 l2 l3 l4 t0 q5)) else F_X7_read_146 l2 l3 l4 t0 J)
set_option maxRecDepth 100000 in
set_option maxHeartbeats 2000000 in
theorem G_X7_read_126 {d : Nat} (hd : 91 ≤ d) : ∀ (l2 : Int32) (l3 : Int32) (l4 : Int32) (t0 : Int32) (J : zzJ) (r : Int32 × zzJ), F_X7_read_126 l2 l3 l4 t0 J = some r → ∀ (lv1 : Value) (hlv1 : lv1.category = 1), zzEv d 166 126 [.ref 46, lv1, .int l2, .int l3, .int l4, zzU] [.int t0] (zK J) (some (.int r.1), zK r.2) := by
  intro l2 l3 l4 t0 J r h lv1 hlv1
  unfold F_X7_read_126 at h
  refine ev_istore zo_166_126 (zz_set rfl (by decide) (Nat.le_of_ble_eq_true rfl)) rfl ?_
  show zzEv _ _ _ [.ref 46, lv1, .int l2, .int l3, .int l4, .int t0] _ _ _
  refine ev_aload_n zo_166_128 rfl rfl rfl rfl ?_
  refine ev_getI zo_166_129 zf_166_183 (by decide) (Or.inr rfl) rfl rfl ?_
  by_cases c3 : (J.2 46 28) = (0 : Int32)
  · rw [if_pos c3] at h
    refine ev_if_f (t := 146) zo_166_132 rfl (zcm_nne c3) rfl ?_
    refine ev_aload_n zo_166_135 rfl rfl rfl rfl ?_
    refine ev_getI zo_166_136 zf_166_166 (by decide) (Or.inl rfl) rfl rfl ?_
    by_cases c4 : (J.2 46 24) = (0 : Int32)
    · rw [if_pos c4] at h
      refine ev_if_t (t := 146) zo_166_139 rfl (zcm_eq c4) ?_
      exact G_X7_read_146 hd l2 l3 l4 t0 J r h (lv1) hlv1
    rw [if_neg c4] at h
    refine ev_if_f (t := 146) zo_166_139 rfl (zcm_neq c4) rfl ?_
    refine ev_aload_n zo_166_142 rfl rfl rfl rfl ?_
    obtain ⟨q5, hq5, h⟩ := zz_bd h
    refine ev_cV (as := []) (lsn := [.ref 46]) (by omega) zo_166_143 zl_166_197 (by rw [zm_153]; rfl) (by rw [zm_153]; exact rfl) (by rw [zm_153]; decide) (by unfold zzIn; rw [zm_153]; rfl) (by rw [zm_153]; exact Nat.le_of_ble_eq_true rfl) (Nat.le_of_ble_eq_true rfl) (G_X7_fail (by omega) J q5 hq5) rfl ?_
    show zzEv _ _ _ _ [] _ _
    exact G_X7_read_146 hd l2 l3 l4 t0 q5 r h (lv1) hlv1
  rw [if_neg c3] at h
  refine ev_if_t (t := 146) zo_166_132 rfl (zcm_ne c3) ?_
  exact G_X7_read_146 hd l2 l3 l4 t0 J r h (lv1) hlv1
def F_X7_read_93 (l2 : Int32) (l3 : Int32) (t0 : Int32) (J : zzJ) : Option (Int32 × zzJ) := (if (J.2 46 28) = (0 : Int32) then (Option.bind (F_X7_isWord (106 : Int32) (111 : Int32) (121 : Int32) (115 : Int32) (0 : Int32) (0 : Int32) (0 : Int32) (0 : Int32) J) fun q7 => (Option.bind (F_X7_part q7.1 q7.2) fun q8 => F_X7_read_126 l2 l3 t0 q8.1 q8.2)) else F_X7_read_126 l2 l3 t0 (0 : Int32) J)
set_option maxRecDepth 100000 in
set_option maxHeartbeats 2000000 in
theorem G_X7_read_93 {d : Nat} (hd : 91 ≤ d) : ∀ (l2 : Int32) (l3 : Int32) (t0 : Int32) (J : zzJ) (r : Int32 × zzJ), F_X7_read_93 l2 l3 t0 J = some r → ∀ (lv1 : Value) (hlv1 : lv1.category = 1), zzEv d 166 93 [.ref 46, lv1, .int l2, .int l3, zzU, zzU] [.int t0] (zK J) (some (.int r.1), zK r.2) := by
  intro l2 l3 t0 J r h lv1 hlv1
  unfold F_X7_read_93 at h
  refine ev_istore zo_166_93 (zz_set rfl (by decide) (Nat.le_of_ble_eq_true rfl)) rfl ?_
  show zzEv _ _ _ [.ref 46, lv1, .int l2, .int l3, .int t0, zzU] _ _ _
  refine ev_aload_n zo_166_95 rfl rfl rfl rfl ?_
  refine ev_getI zo_166_96 zf_166_183 (by decide) (Or.inr rfl) rfl rfl ?_
  by_cases c6 : (J.2 46 28) = (0 : Int32)
  · rw [if_pos c6] at h
    refine ev_if_t (t := 106) zo_166_99 rfl (zcm_eq c6) ?_
    refine ev_aload_n zo_166_106 rfl rfl rfl rfl ?_
    refine ev_aload_n zo_166_107 rfl rfl rfl rfl ?_
    refine ev_bipush (x := 106) zo_166_108 (by decide) rfl ?_
    refine ev_bipush (x := 111) zo_166_110 (by decide) rfl ?_
    refine ev_bipush (x := 121) zo_166_112 (by decide) rfl ?_
    refine ev_bipush (x := 115) zo_166_114 (by decide) rfl ?_
    refine ev_iconst (x := 0) zo_166_116 (by decide) rfl ?_
    refine ev_iconst (x := 0) zo_166_117 (by decide) rfl ?_
    refine ev_iconst (x := 0) zo_166_118 (by decide) rfl ?_
    refine ev_iconst (x := 0) zo_166_119 (by decide) rfl ?_
    obtain ⟨q7, hq7, h⟩ := zz_bd h
    refine ev_cV (as := [.int (0 : Int32), .int (0 : Int32), .int (0 : Int32), .int (0 : Int32), .int (115 : Int32), .int (121 : Int32), .int (111 : Int32), .int (106 : Int32)]) (lsn := [.ref 46, .int (106 : Int32), .int (111 : Int32), .int (121 : Int32), .int (115 : Int32), .int (0 : Int32), .int (0 : Int32), .int (0 : Int32), .int (0 : Int32)]) (by omega) zo_166_120 zl_166_203 (by rw [zm_155]; rfl) (by rw [zm_155]; exact rfl) (by rw [zm_155]; decide) (by unfold zzIn; rw [zm_155]; rfl) (by rw [zm_155]; exact Nat.le_of_ble_eq_true rfl) (Nat.le_of_ble_eq_true rfl) (G_X7_isWord (by omega) (106 : Int32) (111 : Int32) (121 : Int32) (115 : Int32) (0 : Int32) (0 : Int32) (0 : Int32) (0 : Int32) J q7 hq7) rfl ?_
    show zzEv _ _ _ _ [.int q7.1, .ref 46] _ _
    obtain ⟨q8, hq8, h⟩ := zz_bd h
    refine ev_cV (as := [.int q7.1]) (lsn := [.ref 46, .int q7.1, zzU]) (by omega) zo_166_123 zl_166_258 (by rw [zm_165]; rfl) (by rw [zm_165]; exact rfl) (by rw [zm_165]; decide) (by unfold zzIn; rw [zm_165]; rfl) (by rw [zm_165]; exact Nat.le_of_ble_eq_true rfl) (Nat.le_of_ble_eq_true rfl) (G_X7_part (by omega) q7.1 q7.2 q8 hq8) rfl ?_
    show zzEv _ _ _ _ [.int q8.1] _ _
    exact G_X7_read_126 hd l2 l3 t0 q8.1 q8.2 r h (lv1) hlv1
  rw [if_neg c6] at h
  refine ev_if_f (t := 106) zo_166_99 rfl (zcm_neq c6) rfl ?_
  refine ev_iconst (x := 0) zo_166_102 (by decide) rfl ?_
  refine ev_goto (t := 126) zo_166_103 rfl ?_
  exact G_X7_read_126 hd l2 l3 t0 (0 : Int32) J r h (lv1) hlv1
def F_X7_read (x1 : Int32) (x2 : Int32) (J : zzJ) : Option (Int32 × zzJ) := (if zzIx x1 6 then (Option.bind (F_X7_next (wI (wI (wI (wI (wI J 46 21 ((160 : Int32) * x1)) 46 22 ((wI J 46 21 ((160 : Int32) * x1)).2 48 x1.toNatClampNeg)) 46 23 (0 : Int32)) 46 27 (0 : Int32)) 46 28 (0 : Int32))) fun q10 => (Option.bind (F_X7_isWord (115 : Int32) (111 : Int32) (117 : Int32) (110 : Int32) (100 : Int32) (115 : Int32) (0 : Int32) (0 : Int32) q10) fun q11 => (Option.bind (F_X7_part q11.1 q11.2) fun q12 => (if (q12.2.2 46 28) = (0 : Int32) then (Option.bind (F_X7_isWord (116 : Int32) (117 : Int32) (114 : Int32) (110 : Int32) (115 : Int32) (0 : Int32) (0 : Int32) (0 : Int32) q12.2) fun q14 => (Option.bind (F_X7_part q14.1 q14.2) fun q15 => F_X7_read_93 x2 q12.1 q15.1 q15.2)) else F_X7_read_93 x2 q12.1 (0 : Int32) q12.2)))) else none)
set_option maxRecDepth 100000 in
set_option maxHeartbeats 2000000 in
theorem G_X7_read {d : Nat} (hd : 91 ≤ d) (x1 : Int32) (x2 : Int32) (J : zzJ) (r : Int32 × zzJ) (h : F_X7_read x1 x2 J = some r) : zzEv d 166 0 [.ref 46, .int x1, .int x2, zzU, zzU, zzU] [] (zK J) (some (.int r.1), zK r.2) := by
  unfold F_X7_read at h
  refine ev_aload_n zo_166_0 rfl rfl rfl rfl ?_
  refine ev_sipush (x := 160) zo_166_1 (by decide) rfl ?_
  refine ev_iload_n zo_166_4 rfl rfl rfl ?_
  refine ev_imul zo_166_5 rfl ?_
  refine ev_putI zo_166_6 zf_166_154 (by decide) rfl rfl rfl rfl ?_
  refine ev_aload_n zo_166_9 rfl rfl rfl rfl ?_
  refine ev_aload_n zo_166_10 rfl rfl rfl rfl ?_
  refine ev_getR zo_166_11 zf_166_17 (by decide) rfl rfl rfl rfl ?_
  refine ev_iload_n zo_166_14 rfl rfl rfl ?_
  obtain ⟨c9, h⟩ := zz_chk h
  refine ev_iald zo_166_15 rfl c9 rfl ?_
  refine ev_putI zo_166_16 zf_166_151 (by decide) rfl rfl rfl rfl ?_
  refine ev_aload_n zo_166_19 rfl rfl rfl rfl ?_
  refine ev_iconst (x := 0) zo_166_20 (by decide) rfl ?_
  refine ev_putI zo_166_21 zf_166_157 (by decide) rfl rfl rfl rfl ?_
  refine ev_aload_n zo_166_24 rfl rfl rfl rfl ?_
  refine ev_iconst (x := 0) zo_166_25 (by decide) rfl ?_
  refine ev_putI zo_166_26 zf_166_194 (by decide) rfl rfl rfl rfl ?_
  refine ev_aload_n zo_166_29 rfl rfl rfl rfl ?_
  refine ev_iconst (x := 0) zo_166_30 (by decide) rfl ?_
  refine ev_putZ zo_166_31 zf_166_183 (by decide) rfl rfl rfl (Or.inl rfl) rfl ?_
  refine ev_aload_n zo_166_34 rfl rfl rfl rfl ?_
  obtain ⟨q10, hq10, h⟩ := zz_bd h
  refine ev_cV (as := []) (lsn := [.ref 46, zzU, zzU]) (by omega) zo_166_35 zl_166_200 (by rw [zm_152]; rfl) (by rw [zm_152]; exact rfl) (by rw [zm_152]; decide) (by unfold zzIn; rw [zm_152]; rfl) (by rw [zm_152]; exact Nat.le_of_ble_eq_true rfl) (Nat.le_of_ble_eq_true rfl) (G_X7_next (by omega) (wI (wI (wI (wI (wI J 46 21 ((160 : Int32) * x1)) 46 22 ((wI J 46 21 ((160 : Int32) * x1)).2 48 x1.toNatClampNeg)) 46 23 (0 : Int32)) 46 27 (0 : Int32)) 46 28 (0 : Int32)) q10 hq10) rfl ?_
  show zzEv _ _ _ _ [] _ _
  refine ev_aload_n zo_166_38 rfl rfl rfl rfl ?_
  refine ev_aload_n zo_166_39 rfl rfl rfl rfl ?_
  refine ev_bipush (x := 115) zo_166_40 (by decide) rfl ?_
  refine ev_bipush (x := 111) zo_166_42 (by decide) rfl ?_
  refine ev_bipush (x := 117) zo_166_44 (by decide) rfl ?_
  refine ev_bipush (x := 110) zo_166_46 (by decide) rfl ?_
  refine ev_bipush (x := 100) zo_166_48 (by decide) rfl ?_
  refine ev_bipush (x := 115) zo_166_50 (by decide) rfl ?_
  refine ev_iconst (x := 0) zo_166_52 (by decide) rfl ?_
  refine ev_iconst (x := 0) zo_166_53 (by decide) rfl ?_
  obtain ⟨q11, hq11, h⟩ := zz_bd h
  refine ev_cV (as := [.int (0 : Int32), .int (0 : Int32), .int (115 : Int32), .int (100 : Int32), .int (110 : Int32), .int (117 : Int32), .int (111 : Int32), .int (115 : Int32)]) (lsn := [.ref 46, .int (115 : Int32), .int (111 : Int32), .int (117 : Int32), .int (110 : Int32), .int (100 : Int32), .int (115 : Int32), .int (0 : Int32), .int (0 : Int32)]) (by omega) zo_166_54 zl_166_203 (by rw [zm_155]; rfl) (by rw [zm_155]; exact rfl) (by rw [zm_155]; decide) (by unfold zzIn; rw [zm_155]; rfl) (by rw [zm_155]; exact Nat.le_of_ble_eq_true rfl) (Nat.le_of_ble_eq_true rfl) (G_X7_isWord (by omega) (115 : Int32) (111 : Int32) (117 : Int32) (110 : Int32) (100 : Int32) (115 : Int32) (0 : Int32) (0 : Int32) q10 q11 hq11) rfl ?_
  show zzEv _ _ _ _ [.int q11.1, .ref 46] _ _
  obtain ⟨q12, hq12, h⟩ := zz_bd h
  refine ev_cV (as := [.int q11.1]) (lsn := [.ref 46, .int q11.1, zzU]) (by omega) zo_166_57 zl_166_258 (by rw [zm_165]; rfl) (by rw [zm_165]; exact rfl) (by rw [zm_165]; decide) (by unfold zzIn; rw [zm_165]; rfl) (by rw [zm_165]; exact Nat.le_of_ble_eq_true rfl) (Nat.le_of_ble_eq_true rfl) (G_X7_part (by omega) q11.1 q11.2 q12 hq12) rfl ?_
  show zzEv _ _ _ _ [.int q12.1] _ _
  refine ev_istore_n zo_166_60 rfl (zz_set rfl (by decide) (Nat.le_of_ble_eq_true rfl)) rfl ?_
  show zzEv _ _ _ [.ref 46, .int x1, .int x2, .int q12.1, zzU, zzU] _ _ _
  refine ev_aload_n zo_166_61 rfl rfl rfl rfl ?_
  refine ev_getI zo_166_62 zf_166_183 (by decide) (Or.inr rfl) rfl rfl ?_
  by_cases c13 : (q12.2.2 46 28) = (0 : Int32)
  · rw [if_pos c13] at h
    refine ev_if_t (t := 72) zo_166_65 rfl (zcm_eq c13) ?_
    refine ev_aload_n zo_166_72 rfl rfl rfl rfl ?_
    refine ev_aload_n zo_166_73 rfl rfl rfl rfl ?_
    refine ev_bipush (x := 116) zo_166_74 (by decide) rfl ?_
    refine ev_bipush (x := 117) zo_166_76 (by decide) rfl ?_
    refine ev_bipush (x := 114) zo_166_78 (by decide) rfl ?_
    refine ev_bipush (x := 110) zo_166_80 (by decide) rfl ?_
    refine ev_bipush (x := 115) zo_166_82 (by decide) rfl ?_
    refine ev_iconst (x := 0) zo_166_84 (by decide) rfl ?_
    refine ev_iconst (x := 0) zo_166_85 (by decide) rfl ?_
    refine ev_iconst (x := 0) zo_166_86 (by decide) rfl ?_
    obtain ⟨q14, hq14, h⟩ := zz_bd h
    refine ev_cV (as := [.int (0 : Int32), .int (0 : Int32), .int (0 : Int32), .int (115 : Int32), .int (110 : Int32), .int (114 : Int32), .int (117 : Int32), .int (116 : Int32)]) (lsn := [.ref 46, .int (116 : Int32), .int (117 : Int32), .int (114 : Int32), .int (110 : Int32), .int (115 : Int32), .int (0 : Int32), .int (0 : Int32), .int (0 : Int32)]) (by omega) zo_166_87 zl_166_203 (by rw [zm_155]; rfl) (by rw [zm_155]; exact rfl) (by rw [zm_155]; decide) (by unfold zzIn; rw [zm_155]; rfl) (by rw [zm_155]; exact Nat.le_of_ble_eq_true rfl) (Nat.le_of_ble_eq_true rfl) (G_X7_isWord (by omega) (116 : Int32) (117 : Int32) (114 : Int32) (110 : Int32) (115 : Int32) (0 : Int32) (0 : Int32) (0 : Int32) q12.2 q14 hq14) rfl ?_
    show zzEv _ _ _ _ [.int q14.1, .ref 46] _ _
    obtain ⟨q15, hq15, h⟩ := zz_bd h
    refine ev_cV (as := [.int q14.1]) (lsn := [.ref 46, .int q14.1, zzU]) (by omega) zo_166_90 zl_166_258 (by rw [zm_165]; rfl) (by rw [zm_165]; exact rfl) (by rw [zm_165]; decide) (by unfold zzIn; rw [zm_165]; rfl) (by rw [zm_165]; exact Nat.le_of_ble_eq_true rfl) (Nat.le_of_ble_eq_true rfl) (G_X7_part (by omega) q14.1 q14.2 q15 hq15) rfl ?_
    show zzEv _ _ _ _ [.int q15.1] _ _
    exact G_X7_read_93 hd x2 q12.1 q15.1 q15.2 r h (.int x1) rfl
  rw [if_neg c13] at h
  refine ev_if_f (t := 72) zo_166_65 rfl (zcm_neq c13) rfl ?_
  refine ev_iconst (x := 0) zo_166_68 (by decide) rfl ?_
  refine ev_goto (t := 93) zo_166_69 rfl ?_
  exact G_X7_read_93 hd x2 q12.1 (0 : Int32) q12.2 r h (.int x1) rfl
/-! X7_hasFriend -/
def F_X7_hasFriend (x1 : Int32) (J : zzJ) : Option (Int32 × zzJ) := (if zzIx x1 8 then (if (J.2 52 x1.toNatClampNeg) = (-1 : Int32) then some ((0 : Int32), J) else (Option.bind (F_X7_neighbour x1 (-1 : Int32) J) fun q3 => (if zzIx x1 8 then (if q3.1 = (q3.2.2 52 x1.toNatClampNeg) then some ((1 : Int32), q3.2) else (Option.bind (F_X7_neighbour x1 (1 : Int32) q3.2) fun q6 => (if zzIx x1 8 then (if q6.1 = (q6.2.2 52 x1.toNatClampNeg) then some ((1 : Int32), q6.2) else some ((0 : Int32), q6.2)) else none))) else none))) else none)
set_option maxRecDepth 100000 in
set_option maxHeartbeats 2000000 in
theorem G_X7_hasFriend {d : Nat} (hd : 2 ≤ d) (x1 : Int32) (J : zzJ) (r : Int32 × zzJ) (h : F_X7_hasFriend x1 J = some r) : zzEv d 173 0 [.ref 46, .int x1] [] (zK J) (some (.int r.1), zK r.2) := by
  unfold F_X7_hasFriend at h
  refine ev_aload_n zo_173_0 rfl rfl rfl rfl ?_
  refine ev_getR zo_173_1 zf_173_32 (by decide) rfl rfl rfl rfl ?_
  refine ev_iload_n zo_173_4 rfl rfl rfl ?_
  obtain ⟨c1, h⟩ := zz_chk h
  refine ev_iald zo_173_5 rfl c1 rfl ?_
  refine ev_iconst (x := (-1)) zo_173_6 (by decide) rfl ?_
  by_cases c2 : (J.2 52 x1.toNatClampNeg) = (-1 : Int32)
  · rw [if_pos c2] at h
    refine ev_cmp_t (t := 44) zo_173_7 rfl (zcm_eq c2) ?_
    refine ev_iconst (x := 0) zo_173_44 (by decide) rfl ?_
    obtain rfl := Option.some.inj h
    exact ev_retZ zo_173_45 zr_173 (Or.inl rfl)
  rw [if_neg c2] at h
  refine ev_cmp_f (t := 44) zo_173_7 rfl (zcm_neq c2) rfl ?_
  refine ev_aload_n zo_173_10 rfl rfl rfl rfl ?_
  refine ev_iload_n zo_173_11 rfl rfl rfl ?_
  refine ev_iconst (x := (-1)) zo_173_12 (by decide) rfl ?_
  obtain ⟨q3, hq3, h⟩ := zz_bd h
  refine ev_cV (as := [.int (-1 : Int32), .int x1]) (lsn := [.ref 46, .int x1, .int (-1 : Int32), zzU, zzU, zzU]) (by omega) zo_173_13 zl_173_265 (by rw [zm_169]; rfl) (by rw [zm_169]; exact rfl) (by rw [zm_169]; decide) (by unfold zzIn; rw [zm_169]; rfl) (by rw [zm_169]; exact Nat.le_of_ble_eq_true rfl) (Nat.le_of_ble_eq_true rfl) (G_X7_neighbour (by omega) x1 (-1 : Int32) J q3 hq3) rfl ?_
  show zzEv _ _ _ _ [.int q3.1] _ _
  refine ev_aload_n zo_173_16 rfl rfl rfl rfl ?_
  refine ev_getR zo_173_17 zf_173_32 (by decide) rfl rfl rfl rfl ?_
  refine ev_iload_n zo_173_20 rfl rfl rfl ?_
  obtain ⟨c4, h⟩ := zz_chk h
  refine ev_iald zo_173_21 rfl c4 rfl ?_
  by_cases c5 : q3.1 = (q3.2.2 52 x1.toNatClampNeg)
  · rw [if_pos c5] at h
    refine ev_cmp_t (t := 40) zo_173_22 rfl (zcm_eq c5) ?_
    refine ev_iconst (x := 1) zo_173_40 (by decide) rfl ?_
    refine ev_goto (t := 45) zo_173_41 rfl ?_
    obtain rfl := Option.some.inj h
    exact ev_retZ zo_173_45 zr_173 (Or.inr rfl)
  rw [if_neg c5] at h
  refine ev_cmp_f (t := 40) zo_173_22 rfl (zcm_neq c5) rfl ?_
  refine ev_aload_n zo_173_25 rfl rfl rfl rfl ?_
  refine ev_iload_n zo_173_26 rfl rfl rfl ?_
  refine ev_iconst (x := 1) zo_173_27 (by decide) rfl ?_
  obtain ⟨q6, hq6, h⟩ := zz_bd h
  refine ev_cV (as := [.int (1 : Int32), .int x1]) (lsn := [.ref 46, .int x1, .int (1 : Int32), zzU, zzU, zzU]) (by omega) zo_173_28 zl_173_265 (by rw [zm_169]; rfl) (by rw [zm_169]; exact rfl) (by rw [zm_169]; decide) (by unfold zzIn; rw [zm_169]; rfl) (by rw [zm_169]; exact Nat.le_of_ble_eq_true rfl) (Nat.le_of_ble_eq_true rfl) (G_X7_neighbour (by omega) x1 (1 : Int32) q3.2 q6 hq6) rfl ?_
  show zzEv _ _ _ _ [.int q6.1] _ _
  refine ev_aload_n zo_173_31 rfl rfl rfl rfl ?_
  refine ev_getR zo_173_32 zf_173_32 (by decide) rfl rfl rfl rfl ?_
  refine ev_iload_n zo_173_35 rfl rfl rfl ?_
  obtain ⟨c7, h⟩ := zz_chk h
  refine ev_iald zo_173_36 rfl c7 rfl ?_
  by_cases c8 : q6.1 = (q6.2.2 52 x1.toNatClampNeg)
  · rw [if_pos c8] at h
    refine ev_cmp_f (t := 44) zo_173_37 rfl (zcm_nne c8) rfl ?_
    refine ev_iconst (x := 1) zo_173_40 (by decide) rfl ?_
    refine ev_goto (t := 45) zo_173_41 rfl ?_
    obtain rfl := Option.some.inj h
    exact ev_retZ zo_173_45 zr_173 (Or.inr rfl)
  rw [if_neg c8] at h
  refine ev_cmp_t (t := 44) zo_173_37 rfl (zcm_ne c8) ?_
  refine ev_iconst (x := 0) zo_173_44 (by decide) rfl ?_
  obtain rfl := Option.some.inj h
  exact ev_retZ zo_173_45 zr_173 (Or.inl rfl)
/-! X7_asks -/
def F_X7_asks_62 (l1 : Int32) (t0 : Int32) (J : zzJ) : Option (Int32 × zzJ) := (Option.bind (F_X7_read ((wI J 46 20 t0).2 46 4) l1 (wI J 46 20 t0)) fun q1 => (if l1 = (2 : Int32) then (Option.bind (F_X7_within q1.1 (-99 : Int32) (99 : Int32) q1.2) fun q4 => some (q4.1, q4.2)) else (Option.bind (F_X7_within q1.1 (0 : Int32) (99 : Int32) q1.2) fun q3 => some (q3.1, q3.2))))
set_option maxRecDepth 100000 in
set_option maxHeartbeats 2000000 in
theorem G_X7_asks_62 {d : Nat} (hd : 92 ≤ d) : ∀ (l1 : Int32) (t0 : Int32) (J : zzJ) (r : Int32 × zzJ), F_X7_asks_62 l1 t0 J = some r → ∀ (lv2 : Value) (hlv2 : lv2.category = 1), ∀ (lv3 : Value) (hlv3 : lv3.category = 1), zzEv d 174 62 [.ref 46, .int l1, lv2, lv3] [.int t0, .ref 46] (zK J) (some (.int r.1), zK r.2) := by
  intro l1 t0 J r h lv2 hlv2 lv3 hlv3
  unfold F_X7_asks_62 at h
  refine ev_putI zo_174_62 zf_174_222 (by decide) rfl rfl rfl rfl ?_
  refine ev_aload_n zo_174_65 rfl rfl rfl rfl ?_
  refine ev_aload_n zo_174_66 rfl rfl rfl rfl ?_
  refine ev_getI zo_174_67 zf_174_121 (by decide) (Or.inl rfl) rfl rfl ?_
  refine ev_iload_n zo_174_70 rfl rfl rfl ?_
  obtain ⟨q1, hq1, h⟩ := zz_bd h
  refine ev_cV (as := [.int l1, .int ((wI J 46 20 t0).2 46 4)]) (lsn := [.ref 46, .int ((wI J 46 20 t0).2 46 4), .int l1, zzU, zzU, zzU]) (by omega) zo_174_71 zl_174_262 (by rw [zm_166]; rfl) (by rw [zm_166]; exact rfl) (by rw [zm_166]; decide) (by unfold zzIn; rw [zm_166]; rfl) (by rw [zm_166]; exact Nat.le_of_ble_eq_true rfl) (Nat.le_of_ble_eq_true rfl) (G_X7_read (by omega) ((wI J 46 20 t0).2 46 4) l1 (wI J 46 20 t0) q1 hq1) rfl ?_
  show zzEv _ _ _ _ [.int q1.1] _ _
  refine ev_iload_n zo_174_74 rfl rfl rfl ?_
  refine ev_iconst (x := 2) zo_174_75 (by decide) rfl ?_
  by_cases c2 : l1 = (2 : Int32)
  · rw [if_pos c2] at h
    refine ev_cmp_f (t := 84) zo_174_76 rfl (zcm_nne c2) rfl ?_
    refine ev_bipush (x := (-99)) zo_174_79 (by decide) rfl ?_
    refine ev_goto (t := 85) zo_174_81 rfl ?_
    refine ev_bipush (x := 99) zo_174_85 (by decide) rfl ?_
    obtain ⟨q4, hq4, h⟩ := zz_bd h
    refine ev_cS (as := [.int (99 : Int32), .int (-99 : Int32), .int q1.1]) (lsn := [.int q1.1, .int (-99 : Int32), .int (99 : Int32)]) (by omega) zo_174_87 zl_174_274 (by decide) (by rw [zm_137]; rfl) (by unfold zzIn; rw [zm_137]; rfl) (by rw [zm_137]; exact Nat.le_of_ble_eq_true rfl) (Nat.le_of_ble_eq_true rfl) (G_X7_within (by omega) q1.1 (-99 : Int32) (99 : Int32) q1.2 q4 hq4) rfl ?_
    show zzEv _ _ _ _ [.int q4.1] _ _
    obtain rfl := Option.some.inj h
    exact ev_retI zo_174_90 zr_174
  rw [if_neg c2] at h
  refine ev_cmp_t (t := 84) zo_174_76 rfl (zcm_ne c2) ?_
  refine ev_iconst (x := 0) zo_174_84 (by decide) rfl ?_
  refine ev_bipush (x := 99) zo_174_85 (by decide) rfl ?_
  obtain ⟨q3, hq3, h⟩ := zz_bd h
  refine ev_cS (as := [.int (99 : Int32), .int (0 : Int32), .int q1.1]) (lsn := [.int q1.1, .int (0 : Int32), .int (99 : Int32)]) (by omega) zo_174_87 zl_174_274 (by decide) (by rw [zm_137]; rfl) (by unfold zzIn; rw [zm_137]; rfl) (by rw [zm_137]; exact Nat.le_of_ble_eq_true rfl) (Nat.le_of_ble_eq_true rfl) (G_X7_within (by omega) q1.1 (0 : Int32) (99 : Int32) q1.2 q3 hq3) rfl ?_
  show zzEv _ _ _ _ [.int q3.1] _ _
  obtain rfl := Option.some.inj h
  exact ev_retI zo_174_90 zr_174
def F_X7_asks (x1 : Int32) (x2 : Int32) (x3 : Int32) (J : zzJ) : Option (Int32 × zzJ) := (if zzIx x2 8 then (if zzIx x2 8 then (if zzIx x2 8 then (Option.bind (F_X7_besideOf x2 (wI (wI (wI (wI J 46 15 ((J.2 53 x2.toNatClampNeg) / (4 : Int32))) 46 16 (zRem ((wI J 46 15 ((J.2 53 x2.toNatClampNeg) / (4 : Int32))).2 53 x2.toNatClampNeg) (4 : Int32))) 46 17 x3) 46 18 ((wI (wI (wI J 46 15 ((J.2 53 x2.toNatClampNeg) / (4 : Int32))) 46 16 (zRem ((wI J 46 15 ((J.2 53 x2.toNatClampNeg) / (4 : Int32))).2 53 x2.toNatClampNeg) (4 : Int32))) 46 17 x3).2 51 x2.toNatClampNeg))) fun q8 => (Option.bind (F_X7_hasFriend x2 (wI q8.2 46 19 q8.1)) fun q9 => (if q9.1 = (0 : Int32) then F_X7_asks_62 x1 (0 : Int32) q9.2 else F_X7_asks_62 x1 (1 : Int32) q9.2))) else none) else none) else none)
set_option maxRecDepth 100000 in
set_option maxHeartbeats 2000000 in
theorem G_X7_asks {d : Nat} (hd : 92 ≤ d) (x1 : Int32) (x2 : Int32) (x3 : Int32) (J : zzJ) (r : Int32 × zzJ) (h : F_X7_asks x1 x2 x3 J = some r) : zzEv d 174 0 [.ref 46, .int x1, .int x2, .int x3] [] (zK J) (some (.int r.1), zK r.2) := by
  unfold F_X7_asks at h
  refine ev_aload_n zo_174_0 rfl rfl rfl rfl ?_
  refine ev_aload_n zo_174_1 rfl rfl rfl rfl ?_
  refine ev_getR zo_174_2 zf_174_35 (by decide) rfl rfl rfl rfl ?_
  refine ev_iload_n zo_174_5 rfl rfl rfl ?_
  obtain ⟨c5, h⟩ := zz_chk h
  refine ev_iald zo_174_6 rfl c5 rfl ?_
  refine ev_iconst (x := 4) zo_174_7 (by decide) rfl ?_
  refine ev_idiv zo_174_8 (by decide) rfl ?_
  refine ev_putI zo_174_9 zf_174_207 (by decide) rfl rfl rfl rfl ?_
  refine ev_aload_n zo_174_12 rfl rfl rfl rfl ?_
  refine ev_aload_n zo_174_13 rfl rfl rfl rfl ?_
  refine ev_getR zo_174_14 zf_174_35 (by decide) rfl rfl rfl rfl ?_
  refine ev_iload_n zo_174_17 rfl rfl rfl ?_
  obtain ⟨c6, h⟩ := zz_chk h
  refine ev_iald zo_174_18 rfl c6 rfl ?_
  refine ev_iconst (x := 4) zo_174_19 (by decide) rfl ?_
  refine ev_irem zo_174_20 (by decide) rfl ?_
  refine ev_putI zo_174_21 zf_174_210 (by decide) rfl rfl rfl rfl ?_
  refine ev_aload_n zo_174_24 rfl rfl rfl rfl ?_
  refine ev_iload_n zo_174_25 rfl rfl rfl ?_
  refine ev_putI zo_174_26 zf_174_213 (by decide) rfl rfl rfl rfl ?_
  refine ev_aload_n zo_174_29 rfl rfl rfl rfl ?_
  refine ev_aload_n zo_174_30 rfl rfl rfl rfl ?_
  refine ev_getR zo_174_31 zf_174_29 (by decide) rfl rfl rfl rfl ?_
  refine ev_iload_n zo_174_34 rfl rfl rfl ?_
  obtain ⟨c7, h⟩ := zz_chk h
  refine ev_iald zo_174_35 rfl c7 rfl ?_
  refine ev_putI zo_174_36 zf_174_216 (by decide) rfl rfl rfl rfl ?_
  refine ev_aload_n zo_174_39 rfl rfl rfl rfl ?_
  refine ev_aload_n zo_174_40 rfl rfl rfl rfl ?_
  refine ev_iload_n zo_174_41 rfl rfl rfl ?_
  obtain ⟨q8, hq8, h⟩ := zz_bd h
  refine ev_cV (as := [.int x2]) (lsn := [.ref 46, .int x2]) (by omega) zo_174_42 zl_174_140 (by rw [zm_170]; rfl) (by rw [zm_170]; exact rfl) (by rw [zm_170]; decide) (by unfold zzIn; rw [zm_170]; rfl) (by rw [zm_170]; exact Nat.le_of_ble_eq_true rfl) (Nat.le_of_ble_eq_true rfl) (G_X7_besideOf (by omega) x2 (wI (wI (wI (wI J 46 15 ((J.2 53 x2.toNatClampNeg) / (4 : Int32))) 46 16 (zRem ((wI J 46 15 ((J.2 53 x2.toNatClampNeg) / (4 : Int32))).2 53 x2.toNatClampNeg) (4 : Int32))) 46 17 x3) 46 18 ((wI (wI (wI J 46 15 ((J.2 53 x2.toNatClampNeg) / (4 : Int32))) 46 16 (zRem ((wI J 46 15 ((J.2 53 x2.toNatClampNeg) / (4 : Int32))).2 53 x2.toNatClampNeg) (4 : Int32))) 46 17 x3).2 51 x2.toNatClampNeg)) q8 hq8) rfl ?_
  show zzEv _ _ _ _ [.int q8.1, .ref 46] _ _
  refine ev_putI zo_174_45 zf_174_219 (by decide) rfl rfl rfl rfl ?_
  refine ev_aload_n zo_174_48 rfl rfl rfl rfl ?_
  refine ev_aload_n zo_174_49 rfl rfl rfl rfl ?_
  refine ev_iload_n zo_174_50 rfl rfl rfl ?_
  obtain ⟨q9, hq9, h⟩ := zz_bd h
  refine ev_cV (as := [.int x2]) (lsn := [.ref 46, .int x2]) (by omega) zo_174_51 zl_174_271 (by rw [zm_173]; rfl) (by rw [zm_173]; exact rfl) (by rw [zm_173]; decide) (by unfold zzIn; rw [zm_173]; rfl) (by rw [zm_173]; exact Nat.le_of_ble_eq_true rfl) (Nat.le_of_ble_eq_true rfl) (G_X7_hasFriend (by omega) x2 (wI q8.2 46 19 q8.1) q9 hq9) rfl ?_
  show zzEv _ _ _ _ [.int q9.1, .ref 46] _ _
  by_cases c10 : q9.1 = (0 : Int32)
  · rw [if_pos c10] at h
    refine ev_if_t (t := 61) zo_174_54 rfl (zcm_eq c10) ?_
    refine ev_iconst (x := 0) zo_174_61 (by decide) rfl ?_
    exact G_X7_asks_62 hd x1 (0 : Int32) q9.2 r h (.int x2) rfl (.int x3) rfl
  rw [if_neg c10] at h
  refine ev_if_f (t := 61) zo_174_54 rfl (zcm_neq c10) rfl ?_
  refine ev_iconst (x := 1) zo_174_57 (by decide) rfl ?_
  refine ev_goto (t := 62) zo_174_58 rfl ?_
  exact G_X7_asks_62 hd x1 (1 : Int32) q9.2 r h (.int x2) rfl (.int x3) rfl
/-! X7_noiseOf -/
def F_X7_noiseOf_80 (l2 : Int32) (l3 : Int32) (l4 : Int32) (t0 : Int32) (J : zzJ) : Option (Int32 × zzJ) := (if l2 = (1 : Int32) then some (t0, J) else (if l2 = (3 : Int32) then some ((t0 + (5 : Int32)), J) else (if l2 = (2 : Int32) then some ((l3 / (2 : Int32)), J) else (if l2 = (4 : Int32) then some (((l3 / (2 : Int32)) + l4), J) else some (l3, J)))))
set_option maxRecDepth 100000 in
set_option maxHeartbeats 2000000 in
theorem G_X7_noiseOf_80 {d : Nat} (hd : 93 ≤ d) : ∀ (l2 : Int32) (l3 : Int32) (l4 : Int32) (t0 : Int32) (J : zzJ) (r : Int32 × zzJ), F_X7_noiseOf_80 l2 l3 l4 t0 J = some r → ∀ (lv1 : Value) (hlv1 : lv1.category = 1), zzEv d 175 80 [.ref 46, lv1, .int l2, .int l3, .int l4, zzU] [.int t0] (zK J) (some (.int r.1), zK r.2) := by
  intro l2 l3 l4 t0 J r h lv1 hlv1
  unfold F_X7_noiseOf_80 at h
  refine ev_istore zo_175_80 (zz_set rfl (by decide) (Nat.le_of_ble_eq_true rfl)) rfl ?_
  show zzEv _ _ _ [.ref 46, lv1, .int l2, .int l3, .int l4, .int t0] _ _ _
  refine ev_iload_n zo_175_82 rfl rfl rfl ?_
  refine ev_iconst (x := 1) zo_175_83 (by decide) rfl ?_
  by_cases c1 : l2 = (1 : Int32)
  · rw [if_pos c1] at h
    refine ev_cmp_f (t := 92) zo_175_84 rfl (zcm_nne c1) rfl ?_
    refine ev_iload zo_175_87 rfl rfl ?_
    refine ev_goto (t := 130) zo_175_89 rfl ?_
    obtain rfl := Option.some.inj h
    exact ev_retI zo_175_130 zr_175
  rw [if_neg c1] at h
  refine ev_cmp_t (t := 92) zo_175_84 rfl (zcm_ne c1) ?_
  refine ev_iload_n zo_175_92 rfl rfl rfl ?_
  refine ev_iconst (x := 3) zo_175_93 (by decide) rfl ?_
  by_cases c2 : l2 = (3 : Int32)
  · rw [if_pos c2] at h
    refine ev_cmp_f (t := 104) zo_175_94 rfl (zcm_nne c2) rfl ?_
    refine ev_iload zo_175_97 rfl rfl ?_
    refine ev_iconst (x := 5) zo_175_99 (by decide) rfl ?_
    refine ev_iadd zo_175_100 rfl ?_
    refine ev_goto (t := 130) zo_175_101 rfl ?_
    obtain rfl := Option.some.inj h
    exact ev_retI zo_175_130 zr_175
  rw [if_neg c2] at h
  refine ev_cmp_t (t := 104) zo_175_94 rfl (zcm_ne c2) ?_
  refine ev_iload_n zo_175_104 rfl rfl rfl ?_
  refine ev_iconst (x := 2) zo_175_105 (by decide) rfl ?_
  by_cases c3 : l2 = (2 : Int32)
  · rw [if_pos c3] at h
    refine ev_cmp_f (t := 115) zo_175_106 rfl (zcm_nne c3) rfl ?_
    refine ev_iload_n zo_175_109 rfl rfl rfl ?_
    refine ev_iconst (x := 2) zo_175_110 (by decide) rfl ?_
    refine ev_idiv zo_175_111 (by decide) rfl ?_
    refine ev_goto (t := 130) zo_175_112 rfl ?_
    obtain rfl := Option.some.inj h
    exact ev_retI zo_175_130 zr_175
  rw [if_neg c3] at h
  refine ev_cmp_t (t := 115) zo_175_106 rfl (zcm_ne c3) ?_
  refine ev_iload_n zo_175_115 rfl rfl rfl ?_
  refine ev_iconst (x := 4) zo_175_116 (by decide) rfl ?_
  by_cases c4 : l2 = (4 : Int32)
  · rw [if_pos c4] at h
    refine ev_cmp_f (t := 129) zo_175_117 rfl (zcm_nne c4) rfl ?_
    refine ev_iload_n zo_175_120 rfl rfl rfl ?_
    refine ev_iconst (x := 2) zo_175_121 (by decide) rfl ?_
    refine ev_idiv zo_175_122 (by decide) rfl ?_
    refine ev_iload zo_175_123 rfl rfl ?_
    refine ev_iadd zo_175_125 rfl ?_
    refine ev_goto (t := 130) zo_175_126 rfl ?_
    obtain rfl := Option.some.inj h
    exact ev_retI zo_175_130 zr_175
  rw [if_neg c4] at h
  refine ev_cmp_t (t := 129) zo_175_117 rfl (zcm_ne c4) ?_
  refine ev_iload_n zo_175_129 rfl rfl rfl ?_
  obtain rfl := Option.some.inj h
  exact ev_retI zo_175_130 zr_175
def F_X7_noiseOf_37 (l1 : Int32) (l2 : Int32) (J : zzJ) : Option (Int32 × zzJ) := (Option.bind (F_X7_asks (0 : Int32) l1 (J.2 46 7) J) fun q5 => (if zzIx l1 8 then (if zzIx l1 8 then (if ((q5.2.2 53 l1.toNatClampNeg) / (4 : Int32)) = (5 : Int32) then F_X7_noiseOf_80 l2 q5.1 (q5.2.2 51 l1.toNatClampNeg) (((2 : Int32) * q5.1) + (q5.2.2 51 l1.toNatClampNeg)) q5.2 else F_X7_noiseOf_80 l2 q5.1 (q5.2.2 51 l1.toNatClampNeg) ((2 : Int32) * q5.1) q5.2) else none) else none))
set_option maxRecDepth 100000 in
set_option maxHeartbeats 2000000 in
theorem G_X7_noiseOf_37 {d : Nat} (hd : 93 ≤ d) : ∀ (l1 : Int32) (l2 : Int32) (J : zzJ) (r : Int32 × zzJ), F_X7_noiseOf_37 l1 l2 J = some r → zzEv d 175 37 [.ref 46, .int l1, .int l2, zzU, zzU, zzU] [] (zK J) (some (.int r.1), zK r.2) := by
  intro l1 l2 J r h
  unfold F_X7_noiseOf_37 at h
  refine ev_aload_n zo_175_37 rfl rfl rfl rfl ?_
  refine ev_iconst (x := 0) zo_175_38 (by decide) rfl ?_
  refine ev_iload_n zo_175_39 rfl rfl rfl ?_
  refine ev_aload_n zo_175_40 rfl rfl rfl rfl ?_
  refine ev_getI zo_175_41 zf_175_118 (by decide) (Or.inl rfl) rfl rfl ?_
  obtain ⟨q5, hq5, h⟩ := zz_bd h
  refine ev_cV (as := [.int (J.2 46 7), .int l1, .int (0 : Int32)]) (lsn := [.ref 46, .int (0 : Int32), .int l1, .int (J.2 46 7)]) (by omega) zo_175_44 zl_175_278 (by rw [zm_174]; rfl) (by rw [zm_174]; exact rfl) (by rw [zm_174]; decide) (by unfold zzIn; rw [zm_174]; rfl) (by rw [zm_174]; exact Nat.le_of_ble_eq_true rfl) (Nat.le_of_ble_eq_true rfl) (G_X7_asks (by omega) (0 : Int32) l1 (J.2 46 7) J q5 hq5) rfl ?_
  show zzEv _ _ _ _ [.int q5.1] _ _
  refine ev_istore_n zo_175_47 rfl (zz_set rfl (by decide) (Nat.le_of_ble_eq_true rfl)) rfl ?_
  show zzEv _ _ _ [.ref 46, .int l1, .int l2, .int q5.1, zzU, zzU] _ _ _
  refine ev_aload_n zo_175_48 rfl rfl rfl rfl ?_
  refine ev_getR zo_175_49 zf_175_29 (by decide) rfl rfl rfl rfl ?_
  refine ev_iload_n zo_175_52 rfl rfl rfl ?_
  obtain ⟨c6, h⟩ := zz_chk h
  refine ev_iald zo_175_53 rfl c6 rfl ?_
  refine ev_istore zo_175_54 (zz_set rfl (by decide) (Nat.le_of_ble_eq_true rfl)) rfl ?_
  show zzEv _ _ _ [.ref 46, .int l1, .int l2, .int q5.1, .int (q5.2.2 51 l1.toNatClampNeg), zzU] _ _ _
  refine ev_aload_n zo_175_56 rfl rfl rfl rfl ?_
  refine ev_getR zo_175_57 zf_175_35 (by decide) rfl rfl rfl rfl ?_
  refine ev_iload_n zo_175_60 rfl rfl rfl ?_
  obtain ⟨c7, h⟩ := zz_chk h
  refine ev_iald zo_175_61 rfl c7 rfl ?_
  refine ev_iconst (x := 4) zo_175_62 (by decide) rfl ?_
  refine ev_idiv zo_175_63 (by decide) rfl ?_
  refine ev_iconst (x := 5) zo_175_64 (by decide) rfl ?_
  by_cases c8 : ((q5.2.2 53 l1.toNatClampNeg) / (4 : Int32)) = (5 : Int32)
  · rw [if_pos c8] at h
    refine ev_cmp_f (t := 77) zo_175_65 rfl (zcm_nne c8) rfl ?_
    refine ev_iconst (x := 2) zo_175_68 (by decide) rfl ?_
    refine ev_iload_n zo_175_69 rfl rfl rfl ?_
    refine ev_imul zo_175_70 rfl ?_
    refine ev_iload zo_175_71 rfl rfl ?_
    refine ev_iadd zo_175_73 rfl ?_
    refine ev_goto (t := 80) zo_175_74 rfl ?_
    exact G_X7_noiseOf_80 hd l2 q5.1 (q5.2.2 51 l1.toNatClampNeg) (((2 : Int32) * q5.1) + (q5.2.2 51 l1.toNatClampNeg)) q5.2 r h (.int l1) rfl
  rw [if_neg c8] at h
  refine ev_cmp_t (t := 77) zo_175_65 rfl (zcm_ne c8) ?_
  refine ev_iconst (x := 2) zo_175_77 (by decide) rfl ?_
  refine ev_iload_n zo_175_78 rfl rfl rfl ?_
  refine ev_imul zo_175_79 rfl ?_
  exact G_X7_noiseOf_80 hd l2 q5.1 (q5.2.2 51 l1.toNatClampNeg) ((2 : Int32) * q5.1) q5.2 r h (.int l1) rfl
def F_X7_noiseOf (x1 : Int32) (J : zzJ) : Option (Int32 × zzJ) := (if zzIx x1 8 then (if zzIx x1 8 then (if (J.2 53 x1.toNatClampNeg) = (-1 : Int32) then some ((0 : Int32), J) else (if (J.2 50 x1.toNatClampNeg) = (5 : Int32) then some ((0 : Int32), J) else (if (J.2 50 x1.toNatClampNeg) = (3 : Int32) then (Option.bind (F_X7_isWatched x1 J) fun q14 => (if q14.1 = (0 : Int32) then F_X7_noiseOf_37 x1 (J.2 50 x1.toNatClampNeg) q14.2 else some ((0 : Int32), q14.2))) else F_X7_noiseOf_37 x1 (J.2 50 x1.toNatClampNeg) J))) else none) else none)
set_option maxRecDepth 100000 in
set_option maxHeartbeats 2000000 in
theorem G_X7_noiseOf {d : Nat} (hd : 93 ≤ d) (x1 : Int32) (J : zzJ) (r : Int32 × zzJ) (h : F_X7_noiseOf x1 J = some r) : zzEv d 175 0 [.ref 46, .int x1, zzU, zzU, zzU, zzU] [] (zK J) (some (.int r.1), zK r.2) := by
  unfold F_X7_noiseOf at h
  refine ev_aload_n zo_175_0 rfl rfl rfl rfl ?_
  refine ev_getR zo_175_1 zf_175_26 (by decide) rfl rfl rfl rfl ?_
  refine ev_iload_n zo_175_4 rfl rfl rfl ?_
  obtain ⟨c9, h⟩ := zz_chk h
  refine ev_iald zo_175_5 rfl c9 rfl ?_
  refine ev_istore_n zo_175_6 rfl (zz_set rfl (by decide) (Nat.le_of_ble_eq_true rfl)) rfl ?_
  show zzEv _ _ _ [.ref 46, .int x1, .int (J.2 50 x1.toNatClampNeg), zzU, zzU, zzU] _ _ _
  refine ev_aload_n zo_175_7 rfl rfl rfl rfl ?_
  refine ev_getR zo_175_8 zf_175_35 (by decide) rfl rfl rfl rfl ?_
  refine ev_iload_n zo_175_11 rfl rfl rfl ?_
  obtain ⟨c10, h⟩ := zz_chk h
  refine ev_iald zo_175_12 rfl c10 rfl ?_
  refine ev_iconst (x := (-1)) zo_175_13 (by decide) rfl ?_
  by_cases c11 : (J.2 53 x1.toNatClampNeg) = (-1 : Int32)
  · rw [if_pos c11] at h
    refine ev_cmp_t (t := 35) zo_175_14 rfl (zcm_eq c11) ?_
    refine ev_iconst (x := 0) zo_175_35 (by decide) rfl ?_
    obtain rfl := Option.some.inj h
    exact ev_retI zo_175_36 zr_175
  rw [if_neg c11] at h
  refine ev_cmp_f (t := 35) zo_175_14 rfl (zcm_neq c11) rfl ?_
  refine ev_iload_n zo_175_17 rfl rfl rfl ?_
  refine ev_iconst (x := 5) zo_175_18 (by decide) rfl ?_
  by_cases c12 : (J.2 50 x1.toNatClampNeg) = (5 : Int32)
  · rw [if_pos c12] at h
    refine ev_cmp_t (t := 35) zo_175_19 rfl (zcm_eq c12) ?_
    refine ev_iconst (x := 0) zo_175_35 (by decide) rfl ?_
    obtain rfl := Option.some.inj h
    exact ev_retI zo_175_36 zr_175
  rw [if_neg c12] at h
  refine ev_cmp_f (t := 35) zo_175_19 rfl (zcm_neq c12) rfl ?_
  refine ev_iload_n zo_175_22 rfl rfl rfl ?_
  refine ev_iconst (x := 3) zo_175_23 (by decide) rfl ?_
  by_cases c13 : (J.2 50 x1.toNatClampNeg) = (3 : Int32)
  · rw [if_pos c13] at h
    refine ev_cmp_f (t := 37) zo_175_24 rfl (zcm_nne c13) rfl ?_
    refine ev_aload_n zo_175_27 rfl rfl rfl rfl ?_
    refine ev_iload_n zo_175_28 rfl rfl rfl ?_
    obtain ⟨q14, hq14, h⟩ := zz_bd h
    refine ev_cV (as := [.int x1]) (lsn := [.ref 46, .int x1]) (by omega) zo_175_29 zl_175_143 (by rw [zm_172]; rfl) (by rw [zm_172]; exact rfl) (by rw [zm_172]; decide) (by unfold zzIn; rw [zm_172]; rfl) (by rw [zm_172]; exact Nat.le_of_ble_eq_true rfl) (Nat.le_of_ble_eq_true rfl) (G_X7_isWatched (by omega) x1 J q14 hq14) rfl ?_
    show zzEv _ _ _ _ [.int q14.1] _ _
    by_cases c15 : q14.1 = (0 : Int32)
    · rw [if_pos c15] at h
      refine ev_if_t (t := 37) zo_175_32 rfl (zcm_eq c15) ?_
      exact G_X7_noiseOf_37 hd x1 (J.2 50 x1.toNatClampNeg) q14.2 r h
    rw [if_neg c15] at h
    refine ev_if_f (t := 37) zo_175_32 rfl (zcm_neq c15) rfl ?_
    refine ev_iconst (x := 0) zo_175_35 (by decide) rfl ?_
    obtain rfl := Option.some.inj h
    exact ev_retI zo_175_36 zr_175
  rw [if_neg c13] at h
  refine ev_cmp_t (t := 37) zo_175_24 rfl (zcm_ne c13) ?_
  exact G_X7_noiseOf_37 hd x1 (J.2 50 x1.toNatClampNeg) J r h
/-! X7_queasyOf -/
def F_X7_queasyOf_90 (l5 : Int32) (J : zzJ) : Option (Int32 × zzJ) := (Option.bind (F_X7_within l5 (0 : Int32) (99 : Int32) J) fun q1 => some (q1.1, q1.2))
set_option maxRecDepth 100000 in
set_option maxHeartbeats 2000000 in
theorem G_X7_queasyOf_90 {d : Nat} (hd : 93 ≤ d) : ∀ (l5 : Int32) (J : zzJ) (r : Int32 × zzJ), F_X7_queasyOf_90 l5 J = some r → ∀ (lv1 : Value) (hlv1 : lv1.category = 1), ∀ (lv2 : Value) (hlv2 : lv2.category = 1), ∀ (lv3 : Value) (hlv3 : lv3.category = 1), ∀ (lv4 : Value) (hlv4 : lv4.category = 1), zzEv d 176 90 [.ref 46, lv1, lv2, lv3, lv4, .int l5, zzU] [] (zK J) (some (.int r.1), zK r.2) := by
  intro l5 J r h lv1 hlv1 lv2 hlv2 lv3 hlv3 lv4 hlv4
  unfold F_X7_queasyOf_90 at h
  refine ev_iload zo_176_90 rfl rfl ?_
  refine ev_istore zo_176_92 (zz_set rfl (by decide) (Nat.le_of_ble_eq_true rfl)) rfl ?_
  show zzEv _ _ _ [.ref 46, lv1, lv2, lv3, lv4, .int l5, .int l5] _ _ _
  refine ev_iload zo_176_94 rfl rfl ?_
  refine ev_iconst (x := 0) zo_176_96 (by decide) rfl ?_
  refine ev_bipush (x := 99) zo_176_97 (by decide) rfl ?_
  obtain ⟨q1, hq1, h⟩ := zz_bd h
  refine ev_cS (as := [.int (99 : Int32), .int (0 : Int32), .int l5]) (lsn := [.int l5, .int (0 : Int32), .int (99 : Int32)]) (by omega) zo_176_99 zl_176_274 (by decide) (by rw [zm_137]; rfl) (by unfold zzIn; rw [zm_137]; rfl) (by rw [zm_137]; exact Nat.le_of_ble_eq_true rfl) (Nat.le_of_ble_eq_true rfl) (G_X7_within (by omega) l5 (0 : Int32) (99 : Int32) J q1 hq1) rfl ?_
  show zzEv _ _ _ _ [.int q1.1] _ _
  obtain rfl := Option.some.inj h
  exact ev_retI zo_176_102 zr_176
def F_X7_queasyOf (x1 : Int32) (x2 : Int32) (J : zzJ) : Option (Int32 × zzJ) := (if zzIx x1 8 then (if zzIx x1 8 then (if (J.2 53 x1.toNatClampNeg) = (-1 : Int32) then some ((0 : Int32), J) else (if (J.2 50 x1.toNatClampNeg) = (5 : Int32) then some ((0 : Int32), J) else (if zzIx x1 8 then (Option.bind (F_X7_asks (1 : Int32) x1 x2 J) fun q7 => (if (J.2 50 x1.toNatClampNeg) = (2 : Int32) then (Option.bind (F_X7_within (((2 : Int32) * q7.1) + ((J.2 53 x1.toNatClampNeg) / (4 : Int32))) (0 : Int32) (99 : Int32) q7.2) fun q14 => some (q14.1, q14.2)) else (if (J.2 50 x1.toNatClampNeg) = (4 : Int32) then (Option.bind (F_X7_within ((((2 : Int32) * q7.1) + ((J.2 53 x1.toNatClampNeg) / (4 : Int32))) / (2 : Int32)) (0 : Int32) (99 : Int32) q7.2) fun q13 => some (q13.1, q13.2)) else (if (J.2 50 x1.toNatClampNeg) = (3 : Int32) then (if ((J.2 53 x1.toNatClampNeg) / (4 : Int32)) = (5 : Int32) then (Option.bind (F_X7_within (0 : Int32) (0 : Int32) (99 : Int32) q7.2) fun q12 => some (q12.1, q12.2)) else F_X7_queasyOf_90 q7.1 q7.2) else F_X7_queasyOf_90 q7.1 q7.2)))) else none))) else none) else none)
set_option maxRecDepth 100000 in
set_option maxHeartbeats 2000000 in
theorem G_X7_queasyOf {d : Nat} (hd : 93 ≤ d) (x1 : Int32) (x2 : Int32) (J : zzJ) (r : Int32 × zzJ) (h : F_X7_queasyOf x1 x2 J = some r) : zzEv d 176 0 [.ref 46, .int x1, .int x2, zzU, zzU, zzU, zzU] [] (zK J) (some (.int r.1), zK r.2) := by
  unfold F_X7_queasyOf at h
  refine ev_aload_n zo_176_0 rfl rfl rfl rfl ?_
  refine ev_getR zo_176_1 zf_176_26 (by decide) rfl rfl rfl rfl ?_
  refine ev_iload_n zo_176_4 rfl rfl rfl ?_
  obtain ⟨c2, h⟩ := zz_chk h
  refine ev_iald zo_176_5 rfl c2 rfl ?_
  refine ev_istore_n zo_176_6 rfl (zz_set rfl (by decide) (Nat.le_of_ble_eq_true rfl)) rfl ?_
  show zzEv _ _ _ [.ref 46, .int x1, .int x2, .int (J.2 50 x1.toNatClampNeg), zzU, zzU, zzU] _ _ _
  refine ev_aload_n zo_176_7 rfl rfl rfl rfl ?_
  refine ev_getR zo_176_8 zf_176_35 (by decide) rfl rfl rfl rfl ?_
  refine ev_iload_n zo_176_11 rfl rfl rfl ?_
  obtain ⟨c3, h⟩ := zz_chk h
  refine ev_iald zo_176_12 rfl c3 rfl ?_
  refine ev_iconst (x := (-1)) zo_176_13 (by decide) rfl ?_
  by_cases c4 : (J.2 53 x1.toNatClampNeg) = (-1 : Int32)
  · rw [if_pos c4] at h
    refine ev_cmp_t (t := 22) zo_176_14 rfl (zcm_eq c4) ?_
    refine ev_iconst (x := 0) zo_176_22 (by decide) rfl ?_
    obtain rfl := Option.some.inj h
    exact ev_retI zo_176_23 zr_176
  rw [if_neg c4] at h
  refine ev_cmp_f (t := 22) zo_176_14 rfl (zcm_neq c4) rfl ?_
  refine ev_iload_n zo_176_17 rfl rfl rfl ?_
  refine ev_iconst (x := 5) zo_176_18 (by decide) rfl ?_
  by_cases c5 : (J.2 50 x1.toNatClampNeg) = (5 : Int32)
  · rw [if_pos c5] at h
    refine ev_cmp_f (t := 24) zo_176_19 rfl (zcm_nne c5) rfl ?_
    refine ev_iconst (x := 0) zo_176_22 (by decide) rfl ?_
    obtain rfl := Option.some.inj h
    exact ev_retI zo_176_23 zr_176
  rw [if_neg c5] at h
  refine ev_cmp_t (t := 24) zo_176_19 rfl (zcm_ne c5) ?_
  refine ev_aload_n zo_176_24 rfl rfl rfl rfl ?_
  refine ev_getR zo_176_25 zf_176_35 (by decide) rfl rfl rfl rfl ?_
  refine ev_iload_n zo_176_28 rfl rfl rfl ?_
  obtain ⟨c6, h⟩ := zz_chk h
  refine ev_iald zo_176_29 rfl c6 rfl ?_
  refine ev_iconst (x := 4) zo_176_30 (by decide) rfl ?_
  refine ev_idiv zo_176_31 (by decide) rfl ?_
  refine ev_istore zo_176_32 (zz_set rfl (by decide) (Nat.le_of_ble_eq_true rfl)) rfl ?_
  show zzEv _ _ _ [.ref 46, .int x1, .int x2, .int (J.2 50 x1.toNatClampNeg), .int ((J.2 53 x1.toNatClampNeg) / (4 : Int32)), zzU, zzU] _ _ _
  refine ev_aload_n zo_176_34 rfl rfl rfl rfl ?_
  refine ev_iconst (x := 1) zo_176_35 (by decide) rfl ?_
  refine ev_iload_n zo_176_36 rfl rfl rfl ?_
  refine ev_iload_n zo_176_37 rfl rfl rfl ?_
  obtain ⟨q7, hq7, h⟩ := zz_bd h
  refine ev_cV (as := [.int x2, .int x1, .int (1 : Int32)]) (lsn := [.ref 46, .int (1 : Int32), .int x1, .int x2]) (by omega) zo_176_38 zl_176_278 (by rw [zm_174]; rfl) (by rw [zm_174]; exact rfl) (by rw [zm_174]; decide) (by unfold zzIn; rw [zm_174]; rfl) (by rw [zm_174]; exact Nat.le_of_ble_eq_true rfl) (Nat.le_of_ble_eq_true rfl) (G_X7_asks (by omega) (1 : Int32) x1 x2 J q7 hq7) rfl ?_
  show zzEv _ _ _ _ [.int q7.1] _ _
  refine ev_istore zo_176_41 (zz_set rfl (by decide) (Nat.le_of_ble_eq_true rfl)) rfl ?_
  show zzEv _ _ _ [.ref 46, .int x1, .int x2, .int (J.2 50 x1.toNatClampNeg), .int ((J.2 53 x1.toNatClampNeg) / (4 : Int32)), .int q7.1, zzU] _ _ _
  refine ev_iload_n zo_176_43 rfl rfl rfl ?_
  refine ev_iconst (x := 2) zo_176_44 (by decide) rfl ?_
  by_cases c8 : (J.2 50 x1.toNatClampNeg) = (2 : Int32)
  · rw [if_pos c8] at h
    refine ev_cmp_f (t := 58) zo_176_45 rfl (zcm_nne c8) rfl ?_
    refine ev_iconst (x := 2) zo_176_48 (by decide) rfl ?_
    refine ev_iload zo_176_49 rfl rfl ?_
    refine ev_imul zo_176_51 rfl ?_
    refine ev_iload zo_176_52 rfl rfl ?_
    refine ev_iadd zo_176_54 rfl ?_
    refine ev_goto (t := 92) zo_176_55 rfl ?_
    refine ev_istore zo_176_92 (zz_set rfl (by decide) (Nat.le_of_ble_eq_true rfl)) rfl ?_
    show zzEv _ _ _ [.ref 46, .int x1, .int x2, .int (J.2 50 x1.toNatClampNeg), .int ((J.2 53 x1.toNatClampNeg) / (4 : Int32)), .int q7.1, .int (((2 : Int32) * q7.1) + ((J.2 53 x1.toNatClampNeg) / (4 : Int32)))] _ _ _
    refine ev_iload zo_176_94 rfl rfl ?_
    refine ev_iconst (x := 0) zo_176_96 (by decide) rfl ?_
    refine ev_bipush (x := 99) zo_176_97 (by decide) rfl ?_
    obtain ⟨q14, hq14, h⟩ := zz_bd h
    refine ev_cS (as := [.int (99 : Int32), .int (0 : Int32), .int (((2 : Int32) * q7.1) + ((J.2 53 x1.toNatClampNeg) / (4 : Int32)))]) (lsn := [.int (((2 : Int32) * q7.1) + ((J.2 53 x1.toNatClampNeg) / (4 : Int32))), .int (0 : Int32), .int (99 : Int32)]) (by omega) zo_176_99 zl_176_274 (by decide) (by rw [zm_137]; rfl) (by unfold zzIn; rw [zm_137]; rfl) (by rw [zm_137]; exact Nat.le_of_ble_eq_true rfl) (Nat.le_of_ble_eq_true rfl) (G_X7_within (by omega) (((2 : Int32) * q7.1) + ((J.2 53 x1.toNatClampNeg) / (4 : Int32))) (0 : Int32) (99 : Int32) q7.2 q14 hq14) rfl ?_
    show zzEv _ _ _ _ [.int q14.1] _ _
    obtain rfl := Option.some.inj h
    exact ev_retI zo_176_102 zr_176
  rw [if_neg c8] at h
  refine ev_cmp_t (t := 58) zo_176_45 rfl (zcm_ne c8) ?_
  refine ev_iload_n zo_176_58 rfl rfl rfl ?_
  refine ev_iconst (x := 4) zo_176_59 (by decide) rfl ?_
  by_cases c9 : (J.2 50 x1.toNatClampNeg) = (4 : Int32)
  · rw [if_pos c9] at h
    refine ev_cmp_f (t := 75) zo_176_60 rfl (zcm_nne c9) rfl ?_
    refine ev_iconst (x := 2) zo_176_63 (by decide) rfl ?_
    refine ev_iload zo_176_64 rfl rfl ?_
    refine ev_imul zo_176_66 rfl ?_
    refine ev_iload zo_176_67 rfl rfl ?_
    refine ev_iadd zo_176_69 rfl ?_
    refine ev_iconst (x := 2) zo_176_70 (by decide) rfl ?_
    refine ev_idiv zo_176_71 (by decide) rfl ?_
    refine ev_goto (t := 92) zo_176_72 rfl ?_
    refine ev_istore zo_176_92 (zz_set rfl (by decide) (Nat.le_of_ble_eq_true rfl)) rfl ?_
    show zzEv _ _ _ [.ref 46, .int x1, .int x2, .int (J.2 50 x1.toNatClampNeg), .int ((J.2 53 x1.toNatClampNeg) / (4 : Int32)), .int q7.1, .int ((((2 : Int32) * q7.1) + ((J.2 53 x1.toNatClampNeg) / (4 : Int32))) / (2 : Int32))] _ _ _
    refine ev_iload zo_176_94 rfl rfl ?_
    refine ev_iconst (x := 0) zo_176_96 (by decide) rfl ?_
    refine ev_bipush (x := 99) zo_176_97 (by decide) rfl ?_
    obtain ⟨q13, hq13, h⟩ := zz_bd h
    refine ev_cS (as := [.int (99 : Int32), .int (0 : Int32), .int ((((2 : Int32) * q7.1) + ((J.2 53 x1.toNatClampNeg) / (4 : Int32))) / (2 : Int32))]) (lsn := [.int ((((2 : Int32) * q7.1) + ((J.2 53 x1.toNatClampNeg) / (4 : Int32))) / (2 : Int32)), .int (0 : Int32), .int (99 : Int32)]) (by omega) zo_176_99 zl_176_274 (by decide) (by rw [zm_137]; rfl) (by unfold zzIn; rw [zm_137]; rfl) (by rw [zm_137]; exact Nat.le_of_ble_eq_true rfl) (Nat.le_of_ble_eq_true rfl) (G_X7_within (by omega) ((((2 : Int32) * q7.1) + ((J.2 53 x1.toNatClampNeg) / (4 : Int32))) / (2 : Int32)) (0 : Int32) (99 : Int32) q7.2 q13 hq13) rfl ?_
    show zzEv _ _ _ _ [.int q13.1] _ _
    obtain rfl := Option.some.inj h
    exact ev_retI zo_176_102 zr_176
  rw [if_neg c9] at h
  refine ev_cmp_t (t := 75) zo_176_60 rfl (zcm_ne c9) ?_
  refine ev_iload_n zo_176_75 rfl rfl rfl ?_
  refine ev_iconst (x := 3) zo_176_76 (by decide) rfl ?_
  by_cases c10 : (J.2 50 x1.toNatClampNeg) = (3 : Int32)
  · rw [if_pos c10] at h
    refine ev_cmp_f (t := 90) zo_176_77 rfl (zcm_nne c10) rfl ?_
    refine ev_iload zo_176_80 rfl rfl ?_
    refine ev_iconst (x := 5) zo_176_82 (by decide) rfl ?_
    by_cases c11 : ((J.2 53 x1.toNatClampNeg) / (4 : Int32)) = (5 : Int32)
    · rw [if_pos c11] at h
      refine ev_cmp_f (t := 90) zo_176_83 rfl (zcm_nne c11) rfl ?_
      refine ev_iconst (x := 0) zo_176_86 (by decide) rfl ?_
      refine ev_goto (t := 92) zo_176_87 rfl ?_
      refine ev_istore zo_176_92 (zz_set rfl (by decide) (Nat.le_of_ble_eq_true rfl)) rfl ?_
      show zzEv _ _ _ [.ref 46, .int x1, .int x2, .int (J.2 50 x1.toNatClampNeg), .int ((J.2 53 x1.toNatClampNeg) / (4 : Int32)), .int q7.1, .int (0 : Int32)] _ _ _
      refine ev_iload zo_176_94 rfl rfl ?_
      refine ev_iconst (x := 0) zo_176_96 (by decide) rfl ?_
      refine ev_bipush (x := 99) zo_176_97 (by decide) rfl ?_
      obtain ⟨q12, hq12, h⟩ := zz_bd h
      refine ev_cS (as := [.int (99 : Int32), .int (0 : Int32), .int (0 : Int32)]) (lsn := [.int (0 : Int32), .int (0 : Int32), .int (99 : Int32)]) (by omega) zo_176_99 zl_176_274 (by decide) (by rw [zm_137]; rfl) (by unfold zzIn; rw [zm_137]; rfl) (by rw [zm_137]; exact Nat.le_of_ble_eq_true rfl) (Nat.le_of_ble_eq_true rfl) (G_X7_within (by omega) (0 : Int32) (0 : Int32) (99 : Int32) q7.2 q12 hq12) rfl ?_
      show zzEv _ _ _ _ [.int q12.1] _ _
      obtain rfl := Option.some.inj h
      exact ev_retI zo_176_102 zr_176
    rw [if_neg c11] at h
    refine ev_cmp_t (t := 90) zo_176_83 rfl (zcm_ne c11) ?_
    exact G_X7_queasyOf_90 hd q7.1 q7.2 r h (.int x1) rfl (.int x2) rfl (.int (J.2 50 x1.toNatClampNeg)) rfl (.int ((J.2 53 x1.toNatClampNeg) / (4 : Int32))) rfl
  rw [if_neg c10] at h
  refine ev_cmp_t (t := 90) zo_176_77 rfl (zcm_ne c10) ?_
  exact G_X7_queasyOf_90 hd q7.1 q7.2 r h (.int x1) rfl (.int x2) rfl (.int (J.2 50 x1.toNatClampNeg)) rfl (.int ((J.2 53 x1.toNatClampNeg) / (4 : Int32))) rfl
/-! X7_told -/
def F_X7_told_28 (l1 : Int32) (l2 : Int32) (J : zzJ) : Option (Int32 × zzJ) := (if l2 < (5 : Int32) then (if l2 = (0 : Int32) then some ((J.2 46 7), J) else (if l2 = (1 : Int32) then some ((J.2 46 8), J) else (if l2 = (2 : Int32) then (if zzIx l1 8 then some ((J.2 51 l1.toNatClampNeg), J) else none) else (if l2 = (3 : Int32) then (if zzIx l1 8 then some ((J.2 52 l1.toNatClampNeg), J) else none) else (if zzIx l1 8 then some ((J.2 50 l1.toNatClampNeg), J) else none))))) else (if l2 = (5 : Int32) then (if zzIx l1 8 then some ((J.2 53 l1.toNatClampNeg), J) else none) else (if l2 = (6 : Int32) then (Option.bind (F_X7_noiseOf l1 J) fun q10 => some (q10.1, q10.2)) else (if l2 = (7 : Int32) then (Option.bind (F_X7_queasyOf l1 (J.2 46 7) J) fun q9 => some (q9.1, q9.2)) else (if l2 = (8 : Int32) then (Option.bind (F_X7_besideOf l1 J) fun q8 => some (q8.1, q8.2)) else (Option.bind (F_X7_isWatched l1 J) fun q6 => (if q6.1 = (0 : Int32) then some ((0 : Int32), q6.2) else some ((1 : Int32), q6.2))))))))
set_option maxRecDepth 100000 in
set_option maxHeartbeats 2000000 in
theorem G_X7_told_28 {d : Nat} (hd : 94 ≤ d) : ∀ (l1 : Int32) (l2 : Int32) (J : zzJ) (r : Int32 × zzJ), F_X7_told_28 l1 l2 J = some r → zzEv d 148 28 [.ref 46, .int l1, .int l2] [] (zK J) (some (.int r.1), zK r.2) := by
  intro l1 l2 J r h
  unfold F_X7_told_28 at h
  refine ev_iload_n zo_148_28 rfl rfl rfl ?_
  refine ev_iconst (x := 5) zo_148_29 (by decide) rfl ?_
  by_cases c1 : l2 < (5 : Int32)
  · rw [if_pos c1] at h
    refine ev_cmp_f (t := 91) zo_148_30 rfl (zcm_nge c1) rfl ?_
    refine ev_iload_n zo_148_33 rfl rfl rfl ?_
    by_cases c12 : l2 = (0 : Int32)
    · rw [if_pos c12] at h
      refine ev_if_f (t := 44) zo_148_34 rfl (zcm_nne c12) rfl ?_
      refine ev_aload_n zo_148_37 rfl rfl rfl rfl ?_
      refine ev_getI zo_148_38 zf_148_118 (by decide) (Or.inl rfl) rfl rfl ?_
      refine ev_goto (t := 90) zo_148_41 rfl ?_
      obtain rfl := Option.some.inj h
      exact ev_retI zo_148_90 zr_148
    rw [if_neg c12] at h
    refine ev_if_t (t := 44) zo_148_34 rfl (zcm_ne c12) ?_
    refine ev_iload_n zo_148_44 rfl rfl rfl ?_
    refine ev_iconst (x := 1) zo_148_45 (by decide) rfl ?_
    by_cases c13 : l2 = (1 : Int32)
    · rw [if_pos c13] at h
      refine ev_cmp_f (t := 56) zo_148_46 rfl (zcm_nne c13) rfl ?_
      refine ev_aload_n zo_148_49 rfl rfl rfl rfl ?_
      refine ev_getI zo_148_50 zf_148_23 (by decide) (Or.inl rfl) rfl rfl ?_
      refine ev_goto (t := 90) zo_148_53 rfl ?_
      obtain rfl := Option.some.inj h
      exact ev_retI zo_148_90 zr_148
    rw [if_neg c13] at h
    refine ev_cmp_t (t := 56) zo_148_46 rfl (zcm_ne c13) ?_
    refine ev_iload_n zo_148_56 rfl rfl rfl ?_
    refine ev_iconst (x := 2) zo_148_57 (by decide) rfl ?_
    by_cases c14 : l2 = (2 : Int32)
    · rw [if_pos c14] at h
      refine ev_cmp_f (t := 70) zo_148_58 rfl (zcm_nne c14) rfl ?_
      refine ev_aload_n zo_148_61 rfl rfl rfl rfl ?_
      refine ev_getR zo_148_62 zf_148_29 (by decide) rfl rfl rfl rfl ?_
      refine ev_iload_n zo_148_65 rfl rfl rfl ?_
      obtain ⟨c18, h⟩ := zz_chk h
      refine ev_iald zo_148_66 rfl c18 rfl ?_
      refine ev_goto (t := 90) zo_148_67 rfl ?_
      obtain rfl := Option.some.inj h
      exact ev_retI zo_148_90 zr_148
    rw [if_neg c14] at h
    refine ev_cmp_t (t := 70) zo_148_58 rfl (zcm_ne c14) ?_
    refine ev_iload_n zo_148_70 rfl rfl rfl ?_
    refine ev_iconst (x := 3) zo_148_71 (by decide) rfl ?_
    by_cases c15 : l2 = (3 : Int32)
    · rw [if_pos c15] at h
      refine ev_cmp_f (t := 84) zo_148_72 rfl (zcm_nne c15) rfl ?_
      refine ev_aload_n zo_148_75 rfl rfl rfl rfl ?_
      refine ev_getR zo_148_76 zf_148_32 (by decide) rfl rfl rfl rfl ?_
      refine ev_iload_n zo_148_79 rfl rfl rfl ?_
      obtain ⟨c17, h⟩ := zz_chk h
      refine ev_iald zo_148_80 rfl c17 rfl ?_
      refine ev_goto (t := 90) zo_148_81 rfl ?_
      obtain rfl := Option.some.inj h
      exact ev_retI zo_148_90 zr_148
    rw [if_neg c15] at h
    refine ev_cmp_t (t := 84) zo_148_72 rfl (zcm_ne c15) ?_
    refine ev_aload_n zo_148_84 rfl rfl rfl rfl ?_
    refine ev_getR zo_148_85 zf_148_26 (by decide) rfl rfl rfl rfl ?_
    refine ev_iload_n zo_148_88 rfl rfl rfl ?_
    obtain ⟨c16, h⟩ := zz_chk h
    refine ev_iald zo_148_89 rfl c16 rfl ?_
    obtain rfl := Option.some.inj h
    exact ev_retI zo_148_90 zr_148
  rw [if_neg c1] at h
  refine ev_cmp_t (t := 91) zo_148_30 rfl (zcm_ge c1) ?_
  refine ev_iload_n zo_148_91 rfl rfl rfl ?_
  refine ev_iconst (x := 5) zo_148_92 (by decide) rfl ?_
  by_cases c2 : l2 = (5 : Int32)
  · rw [if_pos c2] at h
    refine ev_cmp_f (t := 105) zo_148_93 rfl (zcm_nne c2) rfl ?_
    refine ev_aload_n zo_148_96 rfl rfl rfl rfl ?_
    refine ev_getR zo_148_97 zf_148_35 (by decide) rfl rfl rfl rfl ?_
    refine ev_iload_n zo_148_100 rfl rfl rfl ?_
    obtain ⟨c11, h⟩ := zz_chk h
    refine ev_iald zo_148_101 rfl c11 rfl ?_
    refine ev_goto (t := 164) zo_148_102 rfl ?_
    obtain rfl := Option.some.inj h
    exact ev_retI zo_148_164 zr_148
  rw [if_neg c2] at h
  refine ev_cmp_t (t := 105) zo_148_93 rfl (zcm_ne c2) ?_
  refine ev_iload_n zo_148_105 rfl rfl rfl ?_
  refine ev_bipush (x := 6) zo_148_106 (by decide) rfl ?_
  by_cases c3 : l2 = (6 : Int32)
  · rw [if_pos c3] at h
    refine ev_cmp_f (t := 119) zo_148_108 rfl (zcm_nne c3) rfl ?_
    refine ev_aload_n zo_148_111 rfl rfl rfl rfl ?_
    refine ev_iload_n zo_148_112 rfl rfl rfl ?_
    obtain ⟨q10, hq10, h⟩ := zz_bd h
    refine ev_cV (as := [.int l1]) (lsn := [.ref 46, .int l1, zzU, zzU, zzU, zzU]) (by omega) zo_148_113 zl_148_133 (by rw [zm_175]; rfl) (by rw [zm_175]; exact rfl) (by rw [zm_175]; decide) (by unfold zzIn; rw [zm_175]; rfl) (by rw [zm_175]; exact Nat.le_of_ble_eq_true rfl) (Nat.le_of_ble_eq_true rfl) (G_X7_noiseOf (by omega) l1 J q10 hq10) rfl ?_
    show zzEv _ _ _ _ [.int q10.1] _ _
    refine ev_goto (t := 164) zo_148_116 rfl ?_
    obtain rfl := Option.some.inj h
    exact ev_retI zo_148_164 zr_148
  rw [if_neg c3] at h
  refine ev_cmp_t (t := 119) zo_148_108 rfl (zcm_ne c3) ?_
  refine ev_iload_n zo_148_119 rfl rfl rfl ?_
  refine ev_bipush (x := 7) zo_148_120 (by decide) rfl ?_
  by_cases c4 : l2 = (7 : Int32)
  · rw [if_pos c4] at h
    refine ev_cmp_f (t := 137) zo_148_122 rfl (zcm_nne c4) rfl ?_
    refine ev_aload_n zo_148_125 rfl rfl rfl rfl ?_
    refine ev_iload_n zo_148_126 rfl rfl rfl ?_
    refine ev_aload_n zo_148_127 rfl rfl rfl rfl ?_
    refine ev_getI zo_148_128 zf_148_118 (by decide) (Or.inl rfl) rfl rfl ?_
    obtain ⟨q9, hq9, h⟩ := zz_bd h
    refine ev_cV (as := [.int (J.2 46 7), .int l1]) (lsn := [.ref 46, .int l1, .int (J.2 46 7), zzU, zzU, zzU, zzU]) (by omega) zo_148_131 zl_148_137 (by rw [zm_176]; rfl) (by rw [zm_176]; exact rfl) (by rw [zm_176]; decide) (by unfold zzIn; rw [zm_176]; rfl) (by rw [zm_176]; exact Nat.le_of_ble_eq_true rfl) (Nat.le_of_ble_eq_true rfl) (G_X7_queasyOf (by omega) l1 (J.2 46 7) J q9 hq9) rfl ?_
    show zzEv _ _ _ _ [.int q9.1] _ _
    refine ev_goto (t := 164) zo_148_134 rfl ?_
    obtain rfl := Option.some.inj h
    exact ev_retI zo_148_164 zr_148
  rw [if_neg c4] at h
  refine ev_cmp_t (t := 137) zo_148_122 rfl (zcm_ne c4) ?_
  refine ev_iload_n zo_148_137 rfl rfl rfl ?_
  refine ev_bipush (x := 8) zo_148_138 (by decide) rfl ?_
  by_cases c5 : l2 = (8 : Int32)
  · rw [if_pos c5] at h
    refine ev_cmp_f (t := 151) zo_148_140 rfl (zcm_nne c5) rfl ?_
    refine ev_aload_n zo_148_143 rfl rfl rfl rfl ?_
    refine ev_iload_n zo_148_144 rfl rfl rfl ?_
    obtain ⟨q8, hq8, h⟩ := zz_bd h
    refine ev_cV (as := [.int l1]) (lsn := [.ref 46, .int l1]) (by omega) zo_148_145 zl_148_140 (by rw [zm_170]; rfl) (by rw [zm_170]; exact rfl) (by rw [zm_170]; decide) (by unfold zzIn; rw [zm_170]; rfl) (by rw [zm_170]; exact Nat.le_of_ble_eq_true rfl) (Nat.le_of_ble_eq_true rfl) (G_X7_besideOf (by omega) l1 J q8 hq8) rfl ?_
    show zzEv _ _ _ _ [.int q8.1] _ _
    refine ev_goto (t := 164) zo_148_148 rfl ?_
    obtain rfl := Option.some.inj h
    exact ev_retI zo_148_164 zr_148
  rw [if_neg c5] at h
  refine ev_cmp_t (t := 151) zo_148_140 rfl (zcm_ne c5) ?_
  refine ev_aload_n zo_148_151 rfl rfl rfl rfl ?_
  refine ev_iload_n zo_148_152 rfl rfl rfl ?_
  obtain ⟨q6, hq6, h⟩ := zz_bd h
  refine ev_cV (as := [.int l1]) (lsn := [.ref 46, .int l1]) (by omega) zo_148_153 zl_148_143 (by rw [zm_172]; rfl) (by rw [zm_172]; exact rfl) (by rw [zm_172]; decide) (by unfold zzIn; rw [zm_172]; rfl) (by rw [zm_172]; exact Nat.le_of_ble_eq_true rfl) (Nat.le_of_ble_eq_true rfl) (G_X7_isWatched (by omega) l1 J q6 hq6) rfl ?_
  show zzEv _ _ _ _ [.int q6.1] _ _
  by_cases c7 : q6.1 = (0 : Int32)
  · rw [if_pos c7] at h
    refine ev_if_t (t := 163) zo_148_156 rfl (zcm_eq c7) ?_
    refine ev_iconst (x := 0) zo_148_163 (by decide) rfl ?_
    obtain rfl := Option.some.inj h
    exact ev_retI zo_148_164 zr_148
  rw [if_neg c7] at h
  refine ev_if_f (t := 163) zo_148_156 rfl (zcm_neq c7) rfl ?_
  refine ev_iconst (x := 1) zo_148_159 (by decide) rfl ?_
  refine ev_goto (t := 164) zo_148_160 rfl ?_
  obtain rfl := Option.some.inj h
  exact ev_retI zo_148_164 zr_148
def F_X7_told (x1 : Int32) (x2 : Int32) (J : zzJ) : Option (Int32 × zzJ) := (Option.bind (F_X7_in x2.toInt64 (0 : Int64) (9 : Int64) J) fun q19 => (if q19.1 = (0 : Int32) then some ((-2 : Int32), q19.2) else (if (1 : Int32) < x2 then (Option.bind (F_X7_isOne x1 q19.2) fun q22 => (if q22.1 = (0 : Int32) then some ((-2 : Int32), q22.2) else F_X7_told_28 x1 x2 q22.2)) else F_X7_told_28 x1 x2 q19.2)))
set_option maxRecDepth 100000 in
set_option maxHeartbeats 2000000 in
theorem G_X7_told {d : Nat} (hd : 94 ≤ d) (x1 : Int32) (x2 : Int32) (J : zzJ) (r : Int32 × zzJ) (h : F_X7_told x1 x2 J = some r) : zzEv d 148 0 [.ref 46, .int x1, .int x2] [] (zK J) (some (.int r.1), zK r.2) := by
  unfold F_X7_told at h
  refine ev_iload_n zo_148_0 rfl rfl rfl ?_
  refine ev_i2l zo_148_1 rfl ?_
  refine ev_lconst (x := 0) zo_148_2 (by decide) rfl ?_
  refine ev_ldc2 zo_148_3 zc_148_102 rfl ?_
  obtain ⟨q19, hq19, h⟩ := zz_bd h
  refine ev_cS (as := [.long (9 : Int64), .long (0 : Int64), .long x2.toInt64]) (lsn := [.long x2.toInt64, zzU, .long (0 : Int64), zzU, .long (9 : Int64), zzU]) (by omega) zo_148_6 zl_148_88 (by decide) (by rw [zm_136]; rfl) (by unfold zzIn; rw [zm_136]; rfl) (by rw [zm_136]; exact Nat.le_of_ble_eq_true rfl) (Nat.le_of_ble_eq_true rfl) (G_X7_in (by omega) x2.toInt64 (0 : Int64) (9 : Int64) J q19 hq19) rfl ?_
  show zzEv _ _ _ _ [.int q19.1] _ _
  by_cases c20 : q19.1 = (0 : Int32)
  · rw [if_pos c20] at h
    refine ev_if_t (t := 25) zo_148_9 rfl (zcm_eq c20) ?_
    refine ev_bipush (x := (-2)) zo_148_25 (by decide) rfl ?_
    obtain rfl := Option.some.inj h
    exact ev_retI zo_148_27 zr_148
  rw [if_neg c20] at h
  refine ev_if_f (t := 25) zo_148_9 rfl (zcm_neq c20) rfl ?_
  refine ev_iload_n zo_148_12 rfl rfl rfl ?_
  refine ev_iconst (x := 1) zo_148_13 (by decide) rfl ?_
  by_cases c21 : (1 : Int32) < x2
  · rw [if_pos c21] at h
    refine ev_cmp_f (t := 28) zo_148_14 rfl (zcm_nle c21) rfl ?_
    refine ev_aload_n zo_148_17 rfl rfl rfl rfl ?_
    refine ev_iload_n zo_148_18 rfl rfl rfl ?_
    obtain ⟨q22, hq22, h⟩ := zz_bd h
    refine ev_cV (as := [.int x1]) (lsn := [.ref 46, .int x1]) (by omega) zo_148_19 zl_148_94 (by rw [zm_140]; rfl) (by rw [zm_140]; exact rfl) (by rw [zm_140]; decide) (by unfold zzIn; rw [zm_140]; rfl) (by rw [zm_140]; exact Nat.le_of_ble_eq_true rfl) (Nat.le_of_ble_eq_true rfl) (G_X7_isOne (by omega) x1 q19.2 q22 hq22) rfl ?_
    show zzEv _ _ _ _ [.int q22.1] _ _
    by_cases c23 : q22.1 = (0 : Int32)
    · rw [if_pos c23] at h
      refine ev_if_f (t := 28) zo_148_22 rfl (zcm_nne c23) rfl ?_
      refine ev_bipush (x := (-2)) zo_148_25 (by decide) rfl ?_
      obtain rfl := Option.some.inj h
      exact ev_retI zo_148_27 zr_148
    rw [if_neg c23] at h
    refine ev_if_t (t := 28) zo_148_22 rfl (zcm_ne c23) ?_
    exact G_X7_told_28 hd x1 x2 q22.2 r h
  rw [if_neg c21] at h
  refine ev_cmp_t (t := 28) zo_148_14 rfl (zcm_le c21) ?_
  exact G_X7_told_28 hd x1 x2 q19.2 r h
/-! X7_set -/
def F_X7_set_25 (l1 : Int32) (l2 : Int32) (l3 : Int32) (J : zzJ) : Option (Int32 × zzJ) := (Option.bind (F_X7_isValue l1 l2 l3 J) fun q1 => (if q1.1 = (0 : Int32) then some ((-2 : Int32), q1.2) else (Option.bind (F_X7_told l2 l1 q1.2) fun q3 => (Option.bind (F_X7_lays l1 l2 l3 q3.2) fun q4 => some (q3.1, q4)))))
set_option maxRecDepth 100000 in
set_option maxHeartbeats 2000000 in
theorem G_X7_set_25 {d : Nat} (hd : 95 ≤ d) : ∀ (l1 : Int32) (l2 : Int32) (l3 : Int32) (J : zzJ) (r : Int32 × zzJ), F_X7_set_25 l1 l2 l3 J = some r → zzEv d 143 25 [.ref 46, .int l1, .int l2, .int l3, zzU] [] (zK J) (some (.int r.1), zK r.2) := by
  intro l1 l2 l3 J r h
  unfold F_X7_set_25 at h
  refine ev_aload_n zo_143_25 rfl rfl rfl rfl ?_
  refine ev_iload_n zo_143_26 rfl rfl rfl ?_
  refine ev_iload_n zo_143_27 rfl rfl rfl ?_
  refine ev_iload_n zo_143_28 rfl rfl rfl ?_
  obtain ⟨q1, hq1, h⟩ := zz_bd h
  refine ev_cV (as := [.int l3, .int l2, .int l1]) (lsn := [.ref 46, .int l1, .int l2, .int l3]) (by omega) zo_143_29 zl_143_106 (by rw [zm_142]; rfl) (by rw [zm_142]; exact rfl) (by rw [zm_142]; decide) (by unfold zzIn; rw [zm_142]; rfl) (by rw [zm_142]; exact Nat.le_of_ble_eq_true rfl) (Nat.le_of_ble_eq_true rfl) (G_X7_isValue (by omega) l1 l2 l3 J q1 hq1) rfl ?_
  show zzEv _ _ _ _ [.int q1.1] _ _
  by_cases c2 : q1.1 = (0 : Int32)
  · rw [if_pos c2] at h
    refine ev_if_f (t := 38) zo_143_32 rfl (zcm_nne c2) rfl ?_
    refine ev_bipush (x := (-2)) zo_143_35 (by decide) rfl ?_
    obtain rfl := Option.some.inj h
    exact ev_retI zo_143_37 zr_143
  rw [if_neg c2] at h
  refine ev_if_t (t := 38) zo_143_32 rfl (zcm_ne c2) ?_
  refine ev_aload_n zo_143_38 rfl rfl rfl rfl ?_
  refine ev_iload_n zo_143_39 rfl rfl rfl ?_
  refine ev_iload_n zo_143_40 rfl rfl rfl ?_
  obtain ⟨q3, hq3, h⟩ := zz_bd h
  refine ev_cV (as := [.int l1, .int l2]) (lsn := [.ref 46, .int l2, .int l1]) (by omega) zo_143_41 zl_143_110 (by rw [zm_148]; rfl) (by rw [zm_148]; exact rfl) (by rw [zm_148]; decide) (by unfold zzIn; rw [zm_148]; rfl) (by rw [zm_148]; exact Nat.le_of_ble_eq_true rfl) (Nat.le_of_ble_eq_true rfl) (G_X7_told (by omega) l2 l1 q1.2 q3 hq3) rfl ?_
  show zzEv _ _ _ _ [.int q3.1] _ _
  refine ev_istore zo_143_44 (zz_set rfl (by decide) (Nat.le_of_ble_eq_true rfl)) rfl ?_
  show zzEv _ _ _ [.ref 46, .int l1, .int l2, .int l3, .int q3.1] _ _ _
  refine ev_aload_n zo_143_46 rfl rfl rfl rfl ?_
  refine ev_iload_n zo_143_47 rfl rfl rfl ?_
  refine ev_iload_n zo_143_48 rfl rfl rfl ?_
  refine ev_iload_n zo_143_49 rfl rfl rfl ?_
  obtain ⟨q4, hq4, h⟩ := zz_bd h
  refine ev_cV (as := [.int l3, .int l2, .int l1]) (lsn := [.ref 46, .int l1, .int l2, .int l3]) (by omega) zo_143_50 zl_143_114 (by rw [zm_144]; rfl) (by rw [zm_144]; exact rfl) (by rw [zm_144]; decide) (by unfold zzIn; rw [zm_144]; rfl) (by rw [zm_144]; exact Nat.le_of_ble_eq_true rfl) (Nat.le_of_ble_eq_true rfl) (G_X7_lays (by omega) l1 l2 l3 q3.2 q4 hq4) rfl ?_
  show zzEv _ _ _ _ [] _ _
  refine ev_iload zo_143_53 rfl rfl ?_
  obtain rfl := Option.some.inj h
  exact ev_retI zo_143_55 zr_143
def F_X7_set (x1 : Int32) (x2 : Int32) (x3 : Int32) (J : zzJ) : Option (Int32 × zzJ) := (Option.bind (F_X7_in x1.toInt64 (0 : Int64) (3 : Int64) J) fun q5 => (if q5.1 = (0 : Int32) then some ((-2 : Int32), q5.2) else (if (1 : Int32) < x1 then (Option.bind (F_X7_isOne x2 q5.2) fun q8 => (if q8.1 = (0 : Int32) then some ((-2 : Int32), q8.2) else F_X7_set_25 x1 x2 x3 q8.2)) else F_X7_set_25 x1 x2 x3 q5.2)))
set_option maxRecDepth 100000 in
set_option maxHeartbeats 2000000 in
theorem G_X7_set {d : Nat} (hd : 95 ≤ d) (x1 : Int32) (x2 : Int32) (x3 : Int32) (J : zzJ) (r : Int32 × zzJ) (h : F_X7_set x1 x2 x3 J = some r) : zzEv d 143 0 [.ref 46, .int x1, .int x2, .int x3, zzU] [] (zK J) (some (.int r.1), zK r.2) := by
  unfold F_X7_set at h
  refine ev_iload_n zo_143_0 rfl rfl rfl ?_
  refine ev_i2l zo_143_1 rfl ?_
  refine ev_lconst (x := 0) zo_143_2 (by decide) rfl ?_
  refine ev_ldc2 zo_143_3 zc_143_104 rfl ?_
  obtain ⟨q5, hq5, h⟩ := zz_bd h
  refine ev_cS (as := [.long (3 : Int64), .long (0 : Int64), .long x1.toInt64]) (lsn := [.long x1.toInt64, zzU, .long (0 : Int64), zzU, .long (3 : Int64), zzU]) (by omega) zo_143_6 zl_143_88 (by decide) (by rw [zm_136]; rfl) (by unfold zzIn; rw [zm_136]; rfl) (by rw [zm_136]; exact Nat.le_of_ble_eq_true rfl) (Nat.le_of_ble_eq_true rfl) (G_X7_in (by omega) x1.toInt64 (0 : Int64) (3 : Int64) J q5 hq5) rfl ?_
  show zzEv _ _ _ _ [.int q5.1] _ _
  by_cases c6 : q5.1 = (0 : Int32)
  · rw [if_pos c6] at h
    refine ev_if_t (t := 35) zo_143_9 rfl (zcm_eq c6) ?_
    refine ev_bipush (x := (-2)) zo_143_35 (by decide) rfl ?_
    obtain rfl := Option.some.inj h
    exact ev_retI zo_143_37 zr_143
  rw [if_neg c6] at h
  refine ev_if_f (t := 35) zo_143_9 rfl (zcm_neq c6) rfl ?_
  refine ev_iload_n zo_143_12 rfl rfl rfl ?_
  refine ev_iconst (x := 1) zo_143_13 (by decide) rfl ?_
  by_cases c7 : (1 : Int32) < x1
  · rw [if_pos c7] at h
    refine ev_cmp_f (t := 25) zo_143_14 rfl (zcm_nle c7) rfl ?_
    refine ev_aload_n zo_143_17 rfl rfl rfl rfl ?_
    refine ev_iload_n zo_143_18 rfl rfl rfl ?_
    obtain ⟨q8, hq8, h⟩ := zz_bd h
    refine ev_cV (as := [.int x2]) (lsn := [.ref 46, .int x2]) (by omega) zo_143_19 zl_143_94 (by rw [zm_140]; rfl) (by rw [zm_140]; exact rfl) (by rw [zm_140]; decide) (by unfold zzIn; rw [zm_140]; rfl) (by rw [zm_140]; exact Nat.le_of_ble_eq_true rfl) (Nat.le_of_ble_eq_true rfl) (G_X7_isOne (by omega) x2 q5.2 q8 hq8) rfl ?_
    show zzEv _ _ _ _ [.int q8.1] _ _
    by_cases c9 : q8.1 = (0 : Int32)
    · rw [if_pos c9] at h
      refine ev_if_t (t := 35) zo_143_22 rfl (zcm_eq c9) ?_
      refine ev_bipush (x := (-2)) zo_143_35 (by decide) rfl ?_
      obtain rfl := Option.some.inj h
      exact ev_retI zo_143_37 zr_143
    rw [if_neg c9] at h
    refine ev_if_f (t := 35) zo_143_22 rfl (zcm_neq c9) rfl ?_
    exact G_X7_set_25 hd x1 x2 x3 q8.2 r h
  rw [if_neg c7] at h
  refine ev_cmp_t (t := 25) zo_143_14 rfl (zcm_le c7) ?_
  exact G_X7_set_25 hd x1 x2 x3 q5.2 r h
