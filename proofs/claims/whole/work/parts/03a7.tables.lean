/-! tables, more of them (written by wip/whole/gen1.py) -/
theorem zzMp_in {ps : List Nat} {rs : List zzRow} (h : (ps.map fun i => lw_tbl[i]?) = rs.map fun r => some (Jvm.Cond.code r.1 r.2.1 r.2.2.1 r.2.2.2.1)) : ∀ r ∈ rs, Jvm.Cond.code r.1 r.2.1 r.2.2.1 r.2.2.2.1 ∈ ZW := by
  intro r hr
  have h1 : some (Jvm.Cond.code r.1 r.2.1 r.2.2.1 r.2.2.2.1) ∈ rs.map fun r => some (Jvm.Cond.code r.1 r.2.1 r.2.2.1 r.2.2.2.1) := List.mem_map.mpr ⟨r, hr, rfl⟩
  rw [← h] at h1
  obtain ⟨i, -, hi⟩ := List.mem_map.mp h1
  exact ZW_of (List.mem_of_getElem? hi) rfl
def zzLaw : Nat := 213
theorem zzMw : ∀ y, y < 213 → Jvm.Cond.code (zzM y).1 (zzM y).2.1 (zzM y).2.2.1 (zzM y).2.2.2.1 ∈ ZW := by
  have h : ∀ r ∈ zzMsA, Jvm.Cond.code r.1 r.2.1 r.2.2.1 r.2.2.2.1 ∈ ZW := List.forall_mem_append.mpr ⟨zzMp_in zzMp_0, List.forall_mem_append.mpr ⟨zzMp_in zzMp_1, List.forall_mem_append.mpr ⟨zzMp_in zzMp_2, List.forall_mem_append.mpr ⟨zzMp_in zzMp_3, List.forall_mem_append.mpr ⟨zzMp_in zzMp_4, List.forall_mem_append.mpr ⟨zzMp_in zzMp_5, List.forall_mem_append.mpr ⟨zzMp_in zzMp_6, List.forall_mem_append.mpr ⟨zzMp_in zzMp_7, List.forall_mem_append.mpr ⟨zzMp_in zzMp_8, List.forall_mem_append.mpr ⟨zzMp_in zzMp_9, List.forall_mem_append.mpr ⟨zzMp_in zzMp_10, List.forall_mem_append.mpr ⟨zzMp_in zzMp_11, List.forall_mem_append.mpr ⟨zzMp_in zzMp_12, List.forall_mem_append.mpr ⟨zzMp_in zzMp_13, List.forall_mem_append.mpr ⟨zzMp_in zzMp_14, List.forall_mem_append.mpr ⟨zzMp_in zzMp_15, List.forall_mem_append.mpr ⟨zzMp_in zzMp_16, List.forall_mem_append.mpr ⟨zzMp_in zzMp_17, List.forall_mem_append.mpr ⟨zzMp_in zzMp_18, List.forall_mem_append.mpr ⟨zzMp_in zzMp_19, List.forall_mem_append.mpr ⟨zzMp_in zzMp_20, List.forall_mem_append.mpr ⟨zzMp_in zzMp_21, List.forall_mem_append.mpr ⟨zzMp_in zzMp_22, List.forall_mem_append.mpr ⟨zzMp_in zzMp_23, List.forall_mem_append.mpr ⟨zzMp_in zzMp_24, List.forall_mem_append.mpr ⟨zzMp_in zzMp_25, List.forall_mem_append.mpr ⟨zzMp_in zzMp_26, List.forall_mem_append.mpr ⟨zzMp_in zzMp_27, List.forall_mem_append.mpr ⟨zzMp_in zzMp_28, List.forall_mem_append.mpr ⟨zzMp_in zzMp_29, List.forall_mem_append.mpr ⟨zzMp_in zzMp_30, List.forall_mem_append.mpr ⟨zzMp_in zzMp_31, List.forall_mem_append.mpr ⟨zzMp_in zzMp_32, List.forall_mem_append.mpr ⟨zzMp_in zzMp_33, List.forall_mem_append.mpr ⟨zzMp_in zzMp_34, List.forall_mem_append.mpr ⟨zzMp_in zzMp_35, List.forall_mem_append.mpr ⟨zzMp_in zzMp_36, List.forall_mem_append.mpr ⟨zzMp_in zzMp_37, List.forall_mem_append.mpr ⟨zzMp_in zzMp_38, List.forall_mem_append.mpr ⟨zzMp_in zzMp_39, List.forall_mem_append.mpr ⟨zzMp_in zzMp_40, List.forall_mem_append.mpr ⟨zzMp_in zzMp_41, zzMp_in zzMp_42⟩⟩⟩⟩⟩⟩⟩⟩⟩⟩⟩⟩⟩⟩⟩⟩⟩⟩⟩⟩⟩⟩⟩⟩⟩⟩⟩⟩⟩⟩⟩⟩⟩⟩⟩⟩⟩⟩⟩⟩⟩⟩
  intro y hy
  have e : zzMsA.length = 213 := by decide +kernel
  refine h (zzM y) ?_
  unfold zzM zzMs
  rw [List.getD_eq_getElem?_getD, List.getElem?_append_left (by rw [e]; exact hy), List.getElem?_eq_getElem (by rw [e]; exact hy)]
  exact List.getElem_mem _
theorem zzMd : ∀ y, ∀ q ∈ (zzM y).2.2.2.2.2.2.2, decode (zzM y).2.1 q.1 = .ok q.2 := by
  intro y
  unfold zzM
  rw [List.getD_eq_getElem?_getD]
  cases h : zzMs[y]? with
  | none => intro q hq; cases hq
  | some r => exact zzMk r (List.mem_of_getElem? h)
theorem zzCl_ok : ∀ c, c < 8 → vwCl[c]? = some (zzR c, zzTf c, zzN c) := by
  intro c hc
  match c, hc with
  | 0, _ => rfl
  | 1, _ => rfl
  | 2, _ => rfl
  | 3, _ => rfl
  | 4, _ => rfl
  | 5, _ => rfl
  | 6, _ => rfl
  | 7, _ => rfl
