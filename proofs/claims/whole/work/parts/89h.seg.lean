/-! text: what codes mean -/
def zJnd (op x y : Int32) : Int32 := if op = 10009 then (if x = 0 then (if y = 0 then 0 else 1) else 1) else if op = 10010 then (if x = 0 then 0 else (if y = 0 then 0 else 1)) else if op = 11042 then x * y else if op = 11043 then x + y else if op = 11045 then x - y else if op = 11060 then (if x < y then 1 else 0) else if op = 11061 then (if x = y then 1 else 0) else 0
def zSeg (c : Nat → Int32) (a a' : Nat) (den : (Nat → Int32) → Int32) : Prop :=
  ∀ (J : zzJ) (row sp top fu : Nat), (row = 13 ∨ row = 20 ∨ row = 27) → (∀ k, a ≤ k → k < a' → J.2 2 k = c k) → sp + (a' - a) ≤ 160 → a' ≤ top → top ≤ 960 → ∃ J1, F_X5_value_50 (fu + (a' - a)) row (nI top) (nI sp - 1) (nI a) J = F_X5_value_50 fu row (nI top) (nI sp) (nI a') J1 ∧ J1.2 4 sp = den (J.2 row) ∧ (∀ k, k < sp → J1.2 4 k = J.2 4 k) ∧ J1.1 = J.1 ∧ ∀ b, b ≠ 4 → J1.2 b = J.2 b
section SG
variable {J J1 J2 : zzJ} {c c' : Nat → Int32} {a a' k m row sp top fu : Nat} {d1 d2 den : (Nat → Int32) → Int32}
theorem b_joined {op x y : Int32} : F_X5_joined op x y J = some (zJnd op x y, J) := by
  unfold F_X5_joined zJnd
  repeat' split
  all_goals rfl
theorem zSeg.of (h : zSeg c a a' den) (e : ∀ k, a ≤ k → k < a' → c' k = c k) : zSeg c' a a' den := fun J row sp top fu hr hc => h J row sp top fu hr (fun k h1 h2 => (hc k h1 h2).trans (e k h1 h2))
theorem sp_1 (sp : Nat) : nI sp - 1 + 1 = nI sp := Int32.sub_add_cancel _ _
theorem sp_2 (sp : Nat) : nI (sp + 1) - 1 = nI sp := nI_pred sp
theorem sp_3 (sp : Nat) : nI (sp + 1) + (-1) = nI sp := by rw [i_sub1, sp_2]
theorem seg_num {v : Nat} (hv : v < 10000) (h : c a = nI v) : zSeg c a (a + 1) (fun _ => nI v) := by
  intro J row sp top fu hr hc hsp htop ht
  refine ⟨wI J 4 sp (nI v), ?_, ?_, fun k hk => ?_, rfl, fun b hb => wI_ne hb⟩
  · rw [show fu + (a + 1 - a) = fu + 1 by omega, F_X5_value_50, if_pos ((i_lts (by omega) (by omega)).2 (show a < top by omega)), b_it (z := 960) rfl rfl (by omega) (by omega), hc a (Nat.le_refl a) (by omega), h, Option.bind_some]
    dsimp only
    rw [if_pos (show nI v < (10000 : Int32) by rw [show (10000 : Int32) = nI 10000 from rfl, i_lt, i_nI (by omega), i_nI (by omega)]; omega), sp_1, b_pt (z := 160) rfl rfl (by omega) (by omega), Option.bind_some, nI_1]
  · rw [wI_g, if_pos rfl]
  · rw [wI_g, if_neg (by omega)]
theorem seg_name {i : Nat} (hi : i < 6) (h : c a = nI (10000 + i)) : zSeg c a (a + 1) (fun f => f i) := by
  intro J row sp top fu hr hc hsp htop ht
  have ei : nI (10000 + i) - (10000 : Int32) = nI (10000 + i - 10000) := pk_sub (b := 10000) (by omega)
  rw [Nat.add_sub_cancel_left] at ei
  have hk : zKd row = 8 ∧ zSz row = 6 := by rcases hr with rfl | rfl | rfl <;> exact ⟨rfl, rfl⟩
  refine ⟨wI J 4 sp (J.2 row i), ?_, ?_, fun k hk => ?_, rfl, fun b hb => wI_ne hb⟩
  · rw [show fu + (a + 1 - a) = fu + 1 by omega, F_X5_value_50, if_pos ((i_lts (by omega) (by omega)).2 (show a < top by omega)), b_it (z := 960) rfl rfl (by omega) (by omega), hc a (Nat.le_refl a) (by omega), h, Option.bind_some]
    dsimp only
    rw [if_neg (show ¬ nI (10000 + i) < (10000 : Int32) by rw [show (10000 : Int32) = nI 10000 from rfl, i_lt, i_nI (by omega), i_nI (by omega)]; omega), if_neg (show ¬ (10005 : Int32) < nI (10000 + i) by rw [show (10005 : Int32) = nI 10005 from rfl, i_lt, i_nI (by omega), i_nI (by omega)]; omega), ei, b_it hk.1 hk.2 (by omega) (by omega), Option.bind_some]
    dsimp only
    rw [sp_1, b_pt (z := 160) rfl rfl (by omega) (by omega), Option.bind_some, nI_1]
  · rw [wI_g, if_pos rfl]
  · rw [wI_g, if_neg (by omega)]
theorem seg_bin {op : Nat} (ho : op = 10009 ∨ op = 10010 ∨ op = 11042 ∨ op = 11043 ∨ op = 11045 ∨ op = 11060 ∨ op = 11061) (h1 : zSeg c a m d1) (h2 : zSeg c m a' d2) (ham : a < m) (hma : m ≤ a') (h : c a' = nI op) : zSeg c a (a' + 1) (fun f => zJnd (nI op) (d1 f) (d2 f)) := by
  intro J row sp top fu hr hc hsp htop ht
  obtain ⟨J1, e1, v1, o1, q1, f1⟩ := h1 J row sp top (fu + 1 + (a' - m)) hr (fun k x y => hc k x (by omega)) (by omega) (by omega) ht
  obtain ⟨J2, e2, v2, o2, q2, f2⟩ := h2 J1 row (sp + 1) top (fu + 1) hr (fun k x y => by rw [f1 2 (by omega)]; exact hc k (by omega) (by omega)) (by omega) (by omega) ht
  have c2 : J2.2 2 a' = nI op := by rw [f2 2 (by omega), f1 2 (by omega), hc a' (by omega) (by omega), h]
  have w1 : J2.2 4 sp = d1 (J.2 row) := (o2 sp (by omega)).trans v1
  have w2 : J2.2 4 (sp + 1) = d2 (J.2 row) := by rw [v2, f1 row (by omega)]
  refine ⟨wI J2 4 sp (zJnd (nI op) (d1 (J.2 row)) (d2 (J.2 row))), ?_, ?_, fun k hk => ?_, q2.trans q1, fun b hb => by rw [wI_ne hb, f2 b hb, f1 b hb]⟩
  · rw [show fu + (a' + 1 - a) = fu + 1 + (a' - m) + (m - a) by omega, e1, ← sp_2 sp, e2, F_X5_value_50, if_pos ((i_lts (by omega) (by omega)).2 (show a' < top by omega)), b_it (z := 960) rfl rfl (by omega) (by omega), c2, Option.bind_some]
    dsimp only
    rw [if_neg (show ¬ nI op < (10000 : Int32) by rw [show (10000 : Int32) = nI 10000 from rfl, i_lt, i_nI (by omega), i_nI (by omega)]; omega), if_pos (show (10005 : Int32) < nI op by rw [show (10005 : Int32) = nI 10005 from rfl, i_lt, i_nI (by omega), i_nI (by omega)]; omega), if_neg (show ¬ nI op = (10011 : Int32) from fun q => by have := i_inj (k := op) (m := 10011) (by omega) (by omega) q; omega), if_neg (show ¬ nI op = (10012 : Int32) from fun q => by have := i_inj (k := op) (m := 10012) (by omega) (by omega) q; omega), sp_3, b_it (z := 160) rfl rfl (by omega) (by omega), Option.bind_some]
    dsimp only
    rw [nI_1, b_it (z := 160) rfl rfl (by omega) (by omega), Option.bind_some, w1, w2]
    dsimp only
    rw [b_joined, Option.bind_some]
    dsimp only
    rw [b_pt (z := 160) rfl rfl (by omega) (by omega), Option.bind_some, nI_1, sp_2 sp]
  · rw [wI_g, if_pos rfl]
  · rw [wI_g, if_neg (by omega), o2 k (by omega), o1 k hk]
theorem seg_not (h1 : zSeg c a a' d1) (haa : a < a') (h : c a' = nI 10011) : zSeg c a (a' + 1) (fun f => if d1 f = 0 then 1 else 0) := by
  intro J row sp top fu hr hc hsp htop ht
  obtain ⟨J1, e1, v1, o1, q1, f1⟩ := h1 J row sp top (fu + 1) hr (fun k x y => hc k x (by omega)) (by omega) (by omega) ht
  have c2 : J1.2 2 a' = nI 10011 := by rw [f1 2 (by omega), hc a' (by omega) (by omega), h]
  refine ⟨wI J1 4 sp (if d1 (J.2 row) = 0 then 1 else 0), ?_, ?_, fun k hk => ?_, q1, fun b hb => by rw [wI_ne hb, f1 b hb]⟩
  · rw [show fu + (a' + 1 - a) = fu + 1 + (a' - a) by omega, e1, F_X5_value_50, if_pos ((i_lts (by omega) (by omega)).2 (show a' < top by omega)), b_it (z := 960) rfl rfl (by omega) (by omega), c2, Option.bind_some]
    dsimp only
    rw [if_neg (by decide), if_pos (by decide), if_pos (show nI 10011 = (10011 : Int32) from rfl), b_it (z := 160) rfl rfl (by omega) (by omega), v1, Option.bind_some]
    dsimp only
    rw [b_pt (z := 160) rfl rfl (by omega) (by omega), b_pt (z := 160) rfl rfl (by omega) (by omega), Option.bind_some, Option.bind_some, nI_1]
    by_cases hz : d1 (J.2 row) = 0
    · rw [if_pos hz, if_pos hz]
    · rw [if_neg hz, if_neg hz]
  · rw [wI_g, if_pos rfl]
  · rw [wI_g, if_neg (by omega), o1 k hk]
theorem seg_neg (h1 : zSeg c a a' d1) (haa : a < a') (h : c a' = nI 10012) : zSeg c a (a' + 1) (fun f => -(d1 f)) := by
  intro J row sp top fu hr hc hsp htop ht
  obtain ⟨J1, e1, v1, o1, q1, f1⟩ := h1 J row sp top (fu + 1) hr (fun k x y => hc k x (by omega)) (by omega) (by omega) ht
  have c2 : J1.2 2 a' = nI 10012 := by rw [f1 2 (by omega), hc a' (by omega) (by omega), h]
  refine ⟨wI J1 4 sp (-(d1 (J.2 row))), ?_, ?_, fun k hk => ?_, q1, fun b hb => by rw [wI_ne hb, f1 b hb]⟩
  · rw [show fu + (a' + 1 - a) = fu + 1 + (a' - a) by omega, e1, F_X5_value_50, if_pos ((i_lts (by omega) (by omega)).2 (show a' < top by omega)), b_it (z := 960) rfl rfl (by omega) (by omega), c2, Option.bind_some]
    dsimp only
    rw [if_neg (by decide), if_pos (by decide), if_neg (by decide), if_pos (show nI 10012 = (10012 : Int32) from rfl), b_it (z := 160) rfl rfl (by omega) (by omega), v1, Option.bind_some]
    dsimp only
    rw [b_pt (z := 160) rfl rfl (by omega) (by omega), Option.bind_some, nI_1]
  · rw [wI_g, if_pos rfl]
  · rw [wI_g, if_neg (by omega), o1 k hk]
end SG
