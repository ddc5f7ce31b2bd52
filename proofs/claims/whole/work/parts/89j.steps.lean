/-! text: the class's small steps -/
section SZ
variable {J J1 J2 : zzJ} {b : Nat → Nat} {m p q e f i j k x n r r' o : Nat} {v : Int32}
theorem b_add (h : J.2 1 4 = nI r) (hr : r < 960) : ∃ J1, F_X5_add v J = some J1 ∧ J1.1 = J.1 ∧ (∀ c, c ≠ 1 → c ≠ 2 → J1.2 c = J.2 c) ∧ (∀ k, k ≠ 4 → J1.2 1 k = J.2 1 k) ∧ (∀ k, k ≠ r → J1.2 2 k = J.2 2 k) ∧ J1.2 2 r = v ∧ J1.2 1 4 = nI (r + 1) := by
  refine ⟨wI (wI J 2 r v) 1 4 (nI (r + 1)), ?_, rfl, fun c h1 h2 => by rw [wI_ne h1, wI_ne h2], fun k hk => by rw [wI_g, if_neg hk, wI_ne (by omega)], fun k hk => by rw [wI_ne (by omega), wI_g, if_neg hk], by rw [wI_ne (by omega), wI_g, if_pos rfl], by rw [wI_g, if_pos rfl]⟩
  have e : (wI J 2 r v).2 1 4 = nI r := by rw [wI_ne (by omega)]; exact h
  unfold F_X5_add
  rw [h, b_pt (z := 960) rfl rfl hr (by omega), Option.bind_some, e, nI_1]
theorem s_add (h : zSc J b m p n r) (hr : r < 960) : ∃ J1, F_X5_add v J = some J1 ∧ zFrD r J J1 ∧ zSc J1 b m p n (r + 1) ∧ J1.2 2 r = v ∧ ∀ k, k < r → J1.2 2 k = J.2 2 k := by
  obtain ⟨t, h2, h3, h5, h4, h6, h13, h14⟩ := h
  obtain ⟨J1, e1, a1, a2, a3, a4, a5, a6⟩ := b_add (v := v) h14 hr
  have q5 : J1.2 5 = J.2 5 := a2 5 (by omega) (by omega)
  have fr : zFrD r J J1 := ⟨a1, fun c _ x y => a2 c x y, fun k _ _ _ _ => by rw [q5], a3, fun k hk => a4 k (by omega)⟩
  exact ⟨J1, e1, fr, ⟨t.fd fr, h2, by rw [q5]; exact h3, by rw [q5]; exact h5, by rw [q5]; exact h4, by rw [q5]; exact h6, (a3 3 (by omega)).trans h13, a6⟩, a5, fun k hk => a4 k (by omega)⟩
theorem s_add2 (h : zSf J b m q n r) (hr : r < 960) : ∃ J1, F_X5_add v J = some J1 ∧ zFrD r J J1 ∧ zSf J1 b m q n (r + 1) := by
  obtain ⟨t, hq, h5, h6, h13, h14⟩ := h
  obtain ⟨J1, e1, a1, a2, a3, a4, a5, a6⟩ := b_add (v := v) h14 hr
  have q5 : J1.2 5 = J.2 5 := a2 5 (by omega) (by omega)
  have fr : zFrD r J J1 := ⟨a1, fun c _ x y => a2 c x y, fun k _ _ _ _ => by rw [q5], a3, fun k hk => a4 k (by omega)⟩
  exact ⟨J1, e1, fr, t.fd fr, hq, by rw [q5]; exact h5, by rw [q5]; exact h6, (a3 3 (by omega)).trans h13, a6⟩
end SZ
