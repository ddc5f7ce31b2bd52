/-! each instruction on the machine, as the function says it -/
section ZZS
variable {p : Program} {l : Launch} {e : Env} {R : Room} {s : State} {m : MethodId} {args : Array Value} {below : List Frame} {meth : Method} {c : Code} {H : Heap} {locs : List Loc} {cells slots : Nat} {Q : State → Prop}
variable {cc : ByteArray} {pc nL : Nat} {lsA : Array Slot} {rest : List Value} {σ : Nat → Nat} {ls : List Value} {own : Nat}
theorem zzs_push {il : Instr × Nat} {v : Value} (hx : p.tables.exec = Jvm.exec) (hb : c.code = cc) (hown : s.vm.findClass (zzR own) = some m.cls) (hts : ∀ w ∈ ZW, w.before args s = true) (hst : ∀ (o i k : Nat), zzGet zzKS o i = some k → vk_R (zzR o) i (zzKt.getD k "") (σ (1000 + k)) s)
    (hd : decode cc pc = .ok il) (h : zzPush own il = some v) (k : W p l e R s m args below meth c H locs cells slots Q (F0 m (pc + il.2) lsA (zzV σ v :: rest))) : W p l e R s m args below meth c H locs cells slots Q (F0 m pc lsA rest) := by
  unfold zzPush at h
  split at h
  · cases h; exact lv_iconst hx hb hd rfl k
  · cases h; exact lv_bipush hx hb hd rfl k
  · cases h; exact lv_sipush hx hb hd rfl k
  · cases h; exact lv_lconst hx hb hd rfl k
  · cases h; exact lv_null hx hb hd k
  · next i =>
    split at h
    · next kk hk => cases h; exact va_ldcS hx hb hown (hst _ _ _ hk) hd k
    · cases hq : zzGet zzKI own i with
      | none => rw [hq] at h; cases h
      | some x =>
        rw [hq] at h; cases h
        have hw := zzKIw _ (zzGet_mem hq)
        exact lv_ldc hx hb hown (hts _ (ZW_of hw.1 hw.2)) hd k
  · next i =>
    cases hq : zzGet zzKI own i with
    | none => rw [hq] at h; cases h
    | some x =>
      rw [hq] at h; cases h
      have hw := zzKIw _ (zzGet_mem hq)
      exact lv_ldcw hx hb hown (hts _ (ZW_of hw.1 hw.2)) hd k
  · next i =>
    cases hq : zzGet zzKL own i with
    | none => rw [hq] at h; cases h
    | some x =>
      rw [hq] at h; cases h
      have hw := zzKLw _ (zzGet_mem hq)
      exact lv_ldc2 hx hb hown (hts _ (ZW_of hw.1 hw.2)) hd k
  · cases h
theorem zzIs_int {v : Value} (h : zzIs 1 v = true) : ∃ x, v = .int x := by
  cases v <;> first | exact ⟨_, rfl⟩ | (cases h)
theorem zzIs_long {v : Value} (h : zzIs 2 v = true) : ∃ x, v = .long x := by
  cases v <;> first | exact ⟨_, rfl⟩ | (cases h)
theorem zzIs_ref {v : Value} (h : zzIs 3 v = true) : v = .null ∨ ∃ x, v = .ref x := by
  cases v <;> first | exact Or.inl rfl | exact Or.inr ⟨_, rfl⟩ | (cases h)
theorem zzIs_nU {t : Nat} {v : Value} (h : zzIs t v = true) : v ≠ zzU := by
  rintro rfl
  unfold zzIs zzU at h
  split at h <;> first | (cases h; done) | (next e => cases e)
theorem zzs_ld {il : Instr × Nat} {i t : Nat} {v : Value} (hx : p.tables.exec = Jvm.exec) (hb : c.code = cc) (hd : decode cc pc = .ok il) (h : zzLd il = some (i, t)) (hl : lsA[i]? = some (.val (zzV σ v))) (ht : zzIs t v = true)
    (k : W p l e R s m args below meth c H locs cells slots Q (F0 m (pc + il.2) lsA (zzV σ v :: rest))) : W p l e R s m args below meth c H locs cells slots Q (F0 m pc lsA rest) := by
  unfold zzLd at h
  split at h
  · cases h
    obtain ⟨x, rfl⟩ := zzIs_int ht
    exact lv_iload hx hb hd hl k
  · cases h
    obtain ⟨x, rfl⟩ := zzIs_int ht
    exact lv_iload_n hx hb hd rfl hl k
  · cases h
    obtain ⟨x, rfl⟩ := zzIs_long ht
    exact lv_lload hx hb hd hl k
  · cases h
    obtain ⟨x, rfl⟩ := zzIs_long ht
    exact lv_lload_n hx hb hd rfl hl k
  · cases h
    rcases zzIs_ref ht with rfl | ⟨x, rfl⟩
    · exact lv_aloadN hx hb hd hl k
    · exact lv_aload hx hb hd hl k
  · cases h
    rcases zzIs_ref ht with rfl | ⟨x, rfl⟩
    · exact lv_aload_nN hx hb hd rfl hl k
    · exact lv_aload_n hx hb hd rfl hl k
  · cases h
theorem zzSet_spec {i t : Nat} {v : Value} {ls' : List Value} (h : zzSet ls i t v = some ls') : zzLg ls i = false ∧ ((t = 2 ∧ i + 1 < ls.length ∧ ls' = (ls.set i v).set (i + 1) zzU) ∨ (t ≠ 2 ∧ i < ls.length ∧ ls' = ls.set i v)) := by
  unfold zzSet at h
  split at h
  · cases h
  · next h1 =>
    refine ⟨by simpa using h1, ?_⟩
    split at h
    · next ht =>
      split at h
      · next h2 => cases h; exact Or.inl ⟨ht, h2, rfl⟩
      · cases h
    · next ht =>
      split at h
      · next h2 => cases h; exact Or.inr ⟨ht, h2, rfl⟩
      · cases h
theorem zzSet_len {i t : Nat} {v : Value} {ls' : List Value} (h : zzSet ls i t v = some ls') : ls'.length = ls.length := by
  obtain ⟨-, ⟨-, -, rfl⟩ | ⟨-, -, rfl⟩⟩ := zzSet_spec h <;> simp
theorem zzs_sd {il : Instr × Nat} {i t : Nat} {v : Value} {ls' : List Value} (hx : p.tables.exec = Jvm.exec) (hb : c.code = cc) (hd : decode cc pc = .ok il) (h : zzSd il = some (i, t)) (ht : zzIs t v = true) (hs : zzSet ls i t v = some ls') (hl : lv_has lsA nL (zzAs σ 0 ls)) (hn : ls.length = nL)
    (k : ∀ lsA' : Array Slot, lv_has lsA' nL (zzAs σ 0 ls') → W p l e R s m args below meth c H locs cells slots Q (F0 m (pc + il.2) lsA' rest)) : W p l e R s m args below meth c H locs cells slots Q (F0 m pc lsA (zzV σ v :: rest)) := by
  obtain ⟨hg, hs⟩ := zzSet_spec hs
  unfold zzSd at h
  split at h
  · cases h
    obtain ⟨x, rfl⟩ := zzIs_int ht
    rcases hs with ⟨h1, -, -⟩ | ⟨-, h2, rfl⟩
    · cases h1
    · exact lv_istore hx hb hd hl (hn ▸ h2) rfl (fun q hq => k q (zz_set1 hq hg))
  · cases h
    obtain ⟨x, rfl⟩ := zzIs_int ht
    rcases hs with ⟨h1, -, -⟩ | ⟨-, h2, rfl⟩
    · cases h1
    · exact lv_istore_n hx hb hd rfl hl (hn ▸ h2) rfl (fun q hq => k q (zz_set1 hq hg))
  · cases h
    obtain ⟨x, rfl⟩ := zzIs_long ht
    rcases hs with ⟨-, h2, rfl⟩ | ⟨h1, -, -⟩
    · exact lv_lstore hx hb hd hl (hn ▸ h2) rfl (fun q hq => k q (zz_set2 hq hg))
    · exact absurd rfl h1
  · cases h
    obtain ⟨x, rfl⟩ := zzIs_long ht
    rcases hs with ⟨-, h2, rfl⟩ | ⟨h1, -, -⟩
    · exact lv_lstore_n hx hb hd rfl hl (hn ▸ h2) rfl (fun q hq => k q (zz_set2 hq hg))
    · exact absurd rfl h1
  · cases h
    rcases hs with ⟨h1, -, -⟩ | ⟨-, h2, rfl⟩
    · cases h1
    · rcases zzIs_ref ht with rfl | ⟨x, rfl⟩
      · exact lv_astoreN hx hb hd hl (hn ▸ h2) rfl (fun q hq => k q (zz_set1 hq hg))
      · exact lv_astore hx hb hd hl (hn ▸ h2) rfl (fun q hq => k q (zz_set1 hq hg))
  · cases h
    rcases hs with ⟨h1, -, -⟩ | ⟨-, h2, rfl⟩
    · cases h1
    · rcases zzIs_ref ht with rfl | ⟨x, rfl⟩
      · exact lv_astore_nN hx hb hd rfl hl (hn ▸ h2) rfl (fun q hq => k q (zz_set1 hq hg))
      · exact lv_astore_n hx hb hd rfl hl (hn ▸ h2) rfl (fun q hq => k q (zz_set1 hq hg))
  · cases h
theorem zzs_bi {il : Instr × Nat} {f : Int32 → Int32 → Int32} {x y : Int32} (hx : p.tables.exec = Jvm.exec) (hb : c.code = cc) (hd : decode cc pc = .ok il) (h : zzBi il = some f)
    (k : W p l e R s m args below meth c H locs cells slots Q (F0 m (pc + 1) lsA (.int (f x y) :: rest))) : W p l e R s m args below meth c H locs cells slots Q (F0 m pc lsA (.int y :: .int x :: rest)) := by
  unfold zzBi at h
  split at h
  · cases h; exact lv_iadd hx hb hd k
  · cases h; exact lv_isub hx hb hd k
  · cases h; exact lv_imul hx hb hd k
  · cases h; exact lv_iand hx hb hd k
  · cases h; exact lv_ior hx hb hd k
  · cases h; exact lv_ishl hx hb hd k
  · cases h; exact lv_ishr hx hb hd k
  · cases h; exact lv_iushr hx hb hd rfl k
  · cases h
theorem zzs_di {il : Instr × Nat} {f : Int32 → Int32 → Int32} {x y : Int32} (hx : p.tables.exec = Jvm.exec) (hb : c.code = cc) (hd : decode cc pc = .ok il) (h : zzDi il = some f) (hy : ¬ y = 0)
    (k : W p l e R s m args below meth c H locs cells slots Q (F0 m (pc + 1) lsA (.int (f x y) :: rest))) : W p l e R s m args below meth c H locs cells slots Q (F0 m pc lsA (.int y :: .int x :: rest)) := by
  unfold zzDi at h
  split at h
  · cases h; exact lv_idiv hx hb hd hy k
  · cases h; exact lv_irem hx hb hd hy k
  · cases h
theorem zzs_un {il : Instr × Nat} {f : Int32 → Int32} {x : Int32} (hx : p.tables.exec = Jvm.exec) (hb : c.code = cc) (hd : decode cc pc = .ok il) (h : zzUn il = some f)
    (k : W p l e R s m args below meth c H locs cells slots Q (F0 m (pc + 1) lsA (.int (f x) :: rest))) : W p l e R s m args below meth c H locs cells slots Q (F0 m pc lsA (.int x :: rest)) := by
  unfold zzUn at h
  split at h
  · cases h; exact lv_ineg hx hb hd k
  · cases h; exact lv_i2b hx hb hd rfl k
  · cases h; exact lv_i2s hx hb hd rfl k
  · cases h
theorem zzs_bl {il : Instr × Nat} {f : Int64 → Int64 → Int64} {x y : Int64} (hx : p.tables.exec = Jvm.exec) (hb : c.code = cc) (hd : decode cc pc = .ok il) (h : zzBl il = some f)
    (k : W p l e R s m args below meth c H locs cells slots Q (F0 m (pc + 1) lsA (.long (f x y) :: rest))) : W p l e R s m args below meth c H locs cells slots Q (F0 m pc lsA (.long y :: .long x :: rest)) := by
  unfold zzBl at h
  split at h
  · cases h; exact lv_ladd hx hb hd k
  · cases h; exact lv_lsub hx hb hd k
  · cases h; exact lv_lmul hx hb hd k
  · cases h
theorem zzs_dl {il : Instr × Nat} {f : Int64 → Int64 → Int64} {x y : Int64} (hx : p.tables.exec = Jvm.exec) (hb : c.code = cc) (hd : decode cc pc = .ok il) (h : zzDl il = some f) (hy : ¬ y = 0)
    (k : W p l e R s m args below meth c H locs cells slots Q (F0 m (pc + 1) lsA (.long (f x y) :: rest))) : W p l e R s m args below meth c H locs cells slots Q (F0 m pc lsA (.long y :: .long x :: rest)) := by
  unfold zzDl at h
  split at h
  · cases h; exact lv_ldiv hx hb hd hy k
  · cases h; exact lv_lrem hx hb hd hy k
  · cases h
theorem zzs_ar {il : Instr × Nat} {st : List Value} {Z : zzH} {r : zzS} (hx : p.tables.exec = Jvm.exec) (hb : c.code = cc) (hd : decode cc pc = .ok il) (h : zzAr pc il ls st Z = some r)
    (k : r.2.1 = ls → r.2.2.2 = Z → W p l e R s m args below meth c H locs cells slots Q (F0 m r.1 lsA (r.2.2.1.map (zzV σ)))) : W p l e R s m args below meth c H locs cells slots Q (F0 m pc lsA (st.map (zzV σ))) := by
  unfold zzAr at h
  split at h
  · split at h
    · next f _ _ hf => cases h; exact zzs_bi hx hb hd (by assumption) (k rfl rfl)
    · next f _ _ => 
      split at h
      · cases h
      · next hy => cases h; exact zzs_di hx hb hd (by assumption) hy (k rfl rfl)
    · cases h; exact zzs_un hx hb hd (by assumption) (k rfl rfl)
    · cases h
  · split at h
    · cases h; exact zzs_un hx hb hd (by assumption) (k rfl rfl)
    · cases h
  · split at h
    · cases h; exact zzs_bl hx hb hd (by assumption) (k rfl rfl)
    · split at h
      · cases h
      · next hy => cases h; exact zzs_dl hx hb hd (by assumption) hy (k rfl rfl)
    · cases h
  · cases h
theorem zzTg_spec {off : Int} {t : Nat} (h : zzTg pc off = some t) : (pc : Int) + off = (t : Int) := by
  unfold zzTg at h
  split at h
  · next h0 => cases h; exact (Int.toNat_of_nonneg h0).symm
  · cases h
theorem zzs_cmp {cd : Jvm.ClassFile.Cond} {off : Int} {t : Nat} {x y : Int32} (hx : p.tables.exec = Jvm.exec) (hb : c.code = cc) (hd : decode cc pc = .ok (.if_icmp cd off, 3)) (ht : (pc : Int) + off = (t : Int))
    (k : W p l e R s m args below meth c H locs cells slots Q (F0 m (if zzCm cd x y = true then t else pc + 3) lsA rest)) : W p l e R s m args below meth c H locs cells slots Q (F0 m pc lsA (.int y :: .int x :: rest)) := by
  cases cd
  · exact lv_icmp_eq hx hb hd ht (fun q => by rw [if_pos (by simp [zzCm, q])] at k; exact k) (fun q => by rw [if_neg (by simp [zzCm, q])] at k; exact k)
  · exact lv_icmp_ne hx hb hd ht (fun q => by rw [if_pos (by simp [zzCm, q])] at k; exact k) (fun q => by rw [if_neg (by simp only [zzCm, decide_eq_true_eq]; exact fun z => z q)] at k; exact k)
  · exact lv_icmp_lt hx hb hd ht (fun q => by rw [if_pos (by simp only [zzCm, decide_eq_true_eq]; exact q)] at k; exact k) (fun q => by rw [if_neg (by simp only [zzCm, decide_eq_true_eq]; exact q)] at k; exact k)
  · exact lv_icmp_ge hx hb hd ht (fun q => by rw [if_pos (by simp only [zzCm, decide_eq_true_eq]; exact q)] at k; exact k) (fun q => by rw [if_neg (by simp only [zzCm, decide_eq_true_eq]; exact q)] at k; exact k)
  · exact lv_icmp_gt hx hb hd ht (fun q => by rw [if_pos (by simp only [zzCm, decide_eq_true_eq]; exact q)] at k; exact k) (fun q => by rw [if_neg (by simp only [zzCm, decide_eq_true_eq]; exact q)] at k; exact k)
  · exact lv_icmp_le hx hb hd ht (fun q => by rw [if_pos (by simp only [zzCm, decide_eq_true_eq]; exact q)] at k; exact k) (fun q => by rw [if_neg (by simp only [zzCm, decide_eq_true_eq]; exact q)] at k; exact k)
theorem zzs_if {cd : Jvm.ClassFile.Cond} {off : Int} {t : Nat} {x : Int32} (hx : p.tables.exec = Jvm.exec) (hb : c.code = cc) (hd : decode cc pc = .ok (.ifCond cd off, 3)) (ht : (pc : Int) + off = (t : Int))
    (k : W p l e R s m args below meth c H locs cells slots Q (F0 m (if zzCm cd x 0 = true then t else pc + 3) lsA rest)) : W p l e R s m args below meth c H locs cells slots Q (F0 m pc lsA (.int x :: rest)) := by
  cases cd
  · exact lv_if_eq hx hb hd ht (fun q => by rw [if_pos (by simp only [zzCm, decide_eq_true_eq]; exact q)] at k; exact k) (fun q => by rw [if_neg (by simp only [zzCm, decide_eq_true_eq]; exact q)] at k; exact k)
  · exact lv_if_ne hx hb hd ht (fun q => by rw [if_pos (by simp only [zzCm, decide_eq_true_eq]; exact q)] at k; exact k) (fun q => by rw [if_neg (by simp only [zzCm, decide_eq_true_eq]; exact fun z => z q)] at k; exact k)
  · exact lv_if_lt hx hb hd ht (fun q => by rw [if_pos (by simp only [zzCm, decide_eq_true_eq]; exact q)] at k; exact k) (fun q => by rw [if_neg (by simp only [zzCm, decide_eq_true_eq]; exact q)] at k; exact k)
  · exact lv_if_ge hx hb hd ht (fun q => by rw [if_pos (by simp only [zzCm, decide_eq_true_eq]; exact q)] at k; exact k) (fun q => by rw [if_neg (by simp only [zzCm, decide_eq_true_eq]; exact q)] at k; exact k)
  · exact lv_if_gt hx hb hd ht (fun q => by rw [if_pos (by simp only [zzCm, decide_eq_true_eq]; exact q)] at k; exact k) (fun q => by rw [if_neg (by simp only [zzCm, decide_eq_true_eq]; exact q)] at k; exact k)
  · exact lv_if_le hx hb hd ht (fun q => by rw [if_pos (by simp only [zzCm, decide_eq_true_eq]; exact q)] at k; exact k) (fun q => by rw [if_neg (by simp only [zzCm, decide_eq_true_eq]; exact q)] at k; exact k)
theorem zzs_flow {il : Instr × Nat} {st : List Value} {Z : zzH} {r : zzS} (hx : p.tables.exec = Jvm.exec) (hb : c.code = cc) (hd : decode cc pc = .ok il) (h : zzFlow pc il ls st Z = some r) (hl : lv_has lsA nL (zzAs σ 0 ls)) (hn : ls.length = nL)
    (k : ∀ lsA' : Array Slot, lv_has lsA' nL (zzAs σ 0 r.2.1) → r.2.1.length = nL → r.2.2.2 = Z → W p l e R s m args below meth c H locs cells slots Q (F0 m r.1 lsA' (r.2.2.1.map (zzV σ)))) : W p l e R s m args below meth c H locs cells slots Q (F0 m pc lsA (st.map (zzV σ))) := by
  unfold zzFlow at h
  split at h
  · obtain ⟨t, ht, rfl⟩ := Option.map_eq_some_iff.mp h
    exact lv_goto hx hb hd (zzTg_spec ht) (k _ hl hn rfl)
  · split at h
    · cases h; exact zzs_cmp hx hb hd (zzTg_spec (by assumption)) (k _ hl hn rfl)
    · cases h
  · split at h
    · cases h; exact zzs_if hx hb hd (zzTg_spec (by assumption)) (k _ hl hn rfl)
    · cases h
  · split at h
    · cases h; exact lv_ifnull hx hb hd (k _ hl hn rfl)
    · cases h; exact lv_ifnullN hx hb hd (zzTg_spec (by assumption)) (k _ hl hn rfl)
    · cases h
  · split at h
    · cases h; exact lv_ifnonnull hx hb hd (zzTg_spec (by assumption)) (k _ hl hn rfl)
    · cases h; exact lv_ifnonnullN hx hb hd (k _ hl hn rfl)
    · cases h
  · split at h
    · split at h
      · next ho =>
        obtain ⟨t, ht, rfl⟩ := Option.map_eq_some_iff.mp h
        exact lv_tableOut hx hb hd ho (zzTg_spec ht) (k _ hl hn rfl)
      · next ho =>
        split at h
        · next of hof =>
          obtain ⟨t, ht, rfl⟩ := Option.map_eq_some_iff.mp h
          exact lv_tableIn hx hb hd (fun q => ho (Or.inl q)) (fun q => ho (Or.inr q)) hof (zzTg_spec ht) (k _ hl hn rfl)
        · cases h
    · cases h
  · split at h
    · split at h
      · next hp =>
        obtain ⟨t, ht, rfl⟩ := Option.map_eq_some_iff.mp h
        exact lv_lookup hx hb hd hp rfl (zzTg_spec ht) (k _ hl hn rfl)
      · cases h
    · cases h
  · split at h
    · next i n x hi =>
      obtain ⟨ls', hs, rfl⟩ := Option.map_eq_some_iff.mp h
      have hlen := zzSet_len hs
      obtain ⟨hg, hs⟩ := zzSet_spec hs
      obtain ⟨j, hj⟩ := zz_ka (σ := σ) hi (by intro q; cases q)
      rcases hs with ⟨h1, -, -⟩ | ⟨-, h2, rfl⟩
      · cases h1
      · exact lv_iinc hx hb hd hl hj rfl (hn ▸ h2) rfl (fun q hq => k q (zz_set1 (v := .int _) hq hg) (hlen.trans hn) rfl)
    · cases h
  · split at h
    · split at h
      · next hc => cases h; exact lv_dup hx hb hd ((zzV_cat σ _).trans hc) (k _ hl hn rfl)
      · cases h
    · cases h
  · split at h
    · split at h
      · next hc => cases h; exact lv_pop hx hb hd ((zzV_cat σ _).trans hc) (k _ hl hn rfl)
      · cases h
    · cases h
  · split at h
    · split at h
      · next hc => cases h; exact lv_dup2_11 hx hb hd ((zzV_cat σ _).trans hc.1) ((zzV_cat σ _).trans hc.2) (k _ hl hn rfl)
      · cases h
    · cases h
  · split at h
    · cases h; exact lv_i2l hx hb hd rfl (k _ hl hn rfl)
    · cases h
  · split at h
    · cases h; exact lv_l2i hx hb hd rfl (k _ hl hn rfl)
    · cases h
  · split at h
    · cases h; exact W.lcmp hx hb hd (k _ hl hn rfl)
    · cases h
  · cases h
end ZZS
