/-! a run of the function is a run of the machine -/
theorem zzMem_le {own pc : Nat} {ini : Bool} {il : Instr × Nat} {ls st : List Value} {Z : zzH} {r : zzS} (h : zzMem own ini pc il ls st Z = some r) : Z.1.length ≤ r.2.2.2.1.length ∧ zzSl Z ≤ zzSl r.2.2.2 ∧ r.2.1 = ls := by
  have hnew : ∀ (c n : Nat), Z.1.length ≤ (zzNew Z c n).1.length ∧ zzSl Z ≤ zzSl (zzNew Z c n) := fun c n => ⟨by simp [zzNew], by rw [zzSl_new]; omega⟩
  have hput : ∀ {c a k : Nat} {v : Value} {Z' : zzH}, zzPut Z c a k v = some Z' → Z'.1 = Z.1 := by
    intro c a k v Z' h
    unfold zzPut at h
    split at h
    · cases h; rfl
    · split at h
      · cases h; rfl
      · cases h
    · cases h; rfl
    · split at h
      · cases h; rfl
      · cases h
    · cases h; rfl
    · cases h
  unfold zzMem at h
  repeat' split at h
  all_goals first | (cases h; done) | (cases h; exact ⟨Nat.le_refl _, Nat.le_refl _, rfl⟩) | (cases h; exact ⟨(hnew _ _).1, (hnew _ _).2, rfl⟩) | skip
  all_goals
    obtain ⟨Z', hp, rfl⟩ := Option.map_eq_some_iff.mp h
    have e := hput hp
    refine ⟨?_, ?_, rfl⟩
    · dsimp only; rw [e]; exact Nat.le_refl _
    · unfold zzSl; dsimp only; rw [e]; exact Nat.le_refl _
theorem zzPrim_le {own pc : Nat} {il : Instr × Nat} {ls st : List Value} {Z : zzH} {r : zzS} (h : zzPrim own pc il ls st Z = some r) : r.2.2.2.1 = Z.1 ∧ r.2.1 = ls := by
  unfold zzPrim at h
  repeat' split at h
  all_goals first | (cases h; done) | (cases h; exact ⟨rfl, rfl⟩)
theorem zzFlow_le {pc : Nat} {il : Instr × Nat} {ls st : List Value} {Z : zzH} {r : zzS} (h : zzFlow pc il ls st Z = some r) : r.2.2.2 = Z := by
  unfold zzFlow at h
  repeat' split at h
  all_goals first | (cases h; done) | (cases h; rfl) | (obtain ⟨_, _, rfl⟩ := Option.map_eq_some_iff.mp h; rfl)
theorem zzAr_le {pc : Nat} {il : Instr × Nat} {ls st : List Value} {Z : zzH} {r : zzS} (h : zzAr pc il ls st Z = some r) : r.2.1 = ls ∧ r.2.2.2 = Z := by
  unfold zzAr at h
  repeat' split at h
  all_goals first | (cases h; done) | (cases h; exact ⟨rfl, rfl⟩)
/-- the cases of one instruction -/
theorem zzStep_cases {own pc : Nat} {ini : Bool} {il : Instr × Nat} {ls st : List Value} {Z : zzH} {r : zzS} (h : zzStep own ini pc il ls st Z = some r) :
    (∃ v, zzPush own il = some v ∧ r = (pc + il.2, ls, v :: st, Z)) ∨
    (∃ i t v, zzLd il = some (i, t) ∧ ls[i]? = some v ∧ zzIs t v = true ∧ r = (pc + il.2, ls, v :: st, Z)) ∨
    (∃ i t v st' ls', zzSd il = some (i, t) ∧ st = v :: st' ∧ zzIs t v = true ∧ zzSet ls i t v = some ls' ∧ r = (pc + il.2, ls', st', Z)) ∨
    zzAr pc il ls st Z = some r ∨ zzFlow pc il ls st Z = some r ∨ zzMem own ini pc il ls st Z = some r ∨ zzPrim own pc il ls st Z = some r := by
  unfold zzStep at h
  split at h
  · next v hv => cases h; exact Or.inl ⟨v, hv, rfl⟩
  split at h
  · next i t hit =>
    split at h
    · next v hv =>
      split at h
      · next ht => cases h; exact Or.inr (Or.inl ⟨i, t, v, hit, hv, ht, rfl⟩)
      · cases h
    · cases h
  split at h
  · next i t hit =>
    split at h
    · next v st' =>
      split at h
      · next ht =>
        obtain ⟨ls', hs, rfl⟩ := Option.map_eq_some_iff.mp h
        exact Or.inr (Or.inr (Or.inl ⟨i, t, v, st', ls', hit, rfl, ht, hs, rfl⟩))
      · cases h
    · cases h
  split at h
  · next q hq => cases h; exact Or.inr (Or.inr (Or.inr (Or.inl hq)))
  split at h
  · next q hq => cases h; exact Or.inr (Or.inr (Or.inr (Or.inr (Or.inl hq))))
  split at h
  · next q hq => cases h; exact Or.inr (Or.inr (Or.inr (Or.inr (Or.inr (Or.inl hq)))))
  exact Or.inr (Or.inr (Or.inr (Or.inr (Or.inr (Or.inr h)))))
theorem zzStep_le {own pc : Nat} {ini : Bool} {il : Instr × Nat} {ls st : List Value} {Z : zzH} {r : zzS} (h : zzStep own ini pc il ls st Z = some r) : Z.1.length ≤ r.2.2.2.1.length ∧ zzSl Z ≤ zzSl r.2.2.2 := by
  rcases zzStep_cases h with ⟨v, -, rfl⟩ | ⟨i, t, v, -, -, -, rfl⟩ | ⟨i, t, v, st', ls', -, -, -, -, rfl⟩ | h | h | h | h
  · exact ⟨Nat.le_refl _, Nat.le_refl _⟩
  · exact ⟨Nat.le_refl _, Nat.le_refl _⟩
  · exact ⟨Nat.le_refl _, Nat.le_refl _⟩
  · rw [(zzAr_le h).2]; exact ⟨Nat.le_refl _, Nat.le_refl _⟩
  · rw [zzFlow_le h]; exact ⟨Nat.le_refl _, Nat.le_refl _⟩
  · exact ⟨(zzMem_le h).1, (zzMem_le h).2.1⟩
  · unfold zzSl; rw [(zzPrim_le h).1]; exact ⟨Nat.le_refl _, Nat.le_refl _⟩
theorem zzExec_le : ∀ (n d y pc : Nat) (ls st : List Value) (Z : zzH) (r : Option Value) (Zf : zzH), zzExec n d y pc ls st Z = some (r, Zf) → Z.1.length ≤ Zf.1.length ∧ zzSl Z ≤ zzSl Zf := by
  intro n
  induction n with
  | zero => intro d y pc ls st Z r Zf h; simp [zzExec] at h
  | succ n ih =>
    intro d y pc ls st Z r Zf h
    unfold zzExec at h
    split at h
    · cases h
    split at h
    · cases h; exact ⟨Nat.le_refl _, Nat.le_refl _⟩
    split at h
    · split at h
      · cases h
      split at h
      · cases h
      · next h4 =>
        have a1 := ih _ _ _ _ _ _ _ _ h4
        have a2 := ih _ _ _ _ _ _ _ _ h
        exact ⟨Nat.le_trans a1.1 a2.1, Nat.le_trans a1.2 a2.2⟩
    · split at h
      · cases h
      · next h4 =>
        have a1 := zzStep_le h4
        have a2 := ih _ _ _ _ _ _ _ _ h
        exact ⟨Nat.le_trans a1.1 a2.1, Nat.le_trans a1.2 a2.2⟩
theorem zz_sub {a : Nat} (h1 : 1000 ≤ a) (h2 : a < 1013) : ∃ j : Nat, j < 13 ∧ a = 1000 + j ∧ a - 1000 = j := ⟨a - 1000, by omega, by omega, rfl⟩
section ZZP
variable {p : Program} {l : Launch} {e : Env} {R : Room} {s : State} {m : MethodId} {args : Array Value} {below : List Frame} {meth : Method} {c : Code} {H : Heap} {locs : List Loc} {cells slots : Nat} {Q : State → Prop}
variable {cc : ByteArray} {pc nL : Nat} {lsA : Array Slot} {σ : Nat → Nat} {ls : List Value} {own B : Nat} {dC : Nat → ClassId} {dI : Nat → Nat → Nat} {ca : Nat → ClassId} {sx : Int64 × (Nat → Int32)} {adV : Nat → Nat}
theorem zz_gi {r : (Nat × Nat) × Nat × Nat} (hr : r ∈ zzML) {pre : List Cond} (hp : pre = zzMLc r) {y : Cond} (hy : y ∈ ZW) : GoodIn ZW (pre ++ (y :: ZW)) := by
  subst hp
  intro w hw
  rcases List.mem_append.mp hw with h | h
  · have h1 := zzMLw r hr w h
    exact ⟨ZW_of h1.1 h1.2, good_of_word h1.2⟩
  · rcases List.mem_cons.mp h with rfl | h
    · exact ⟨hy, ZW_good hy⟩
    · exact ⟨h, ZW_good h⟩
set_option maxHeartbeats 2000000 in
theorem zzs_prim {il : Instr × Nat} {st : List Value} {Z : zzH} {r : zzS} {L0 : Nat} (hx : p.tables.exec = Jvm.exec) (hb : c.code = cc) (hml : c.maxLocals = nL) (hl : lv_has lsA nL (zzAs σ 0 ls)) (hown : s.vm.findClass (zzR own) = some m.cls) (hts : ∀ w ∈ ZW, w.before args s = true)
    (hfr : zzFr B σ dC dI ca sx adV s s.heap) (hσ : ∀ a, a < 1000 → σ a = B + a) (hR : 9 ≤ R.frames ∧ 400 ≤ R.locals) (hrel : zzRel B σ dC dI ca sx Z H) (hS : va_S (fun q : Nat => B ≤ q) s.heap H locs) (h0 : s.heap.size = B + L0) (hc : cells + L0 = Z.1.length) (hcc : cells ≤ R.cells) (hss : slots ≤ R.slots)
    (hd : decode cc pc = .ok il) (h : zzPrim own pc il ls st Z = some r)
    (kk : ∀ (H' : Heap) (locs' : List Loc), zzRel B σ dC dI ca sx r.2.2.2 H' → va_S (fun q : Nat => B ≤ q) s.heap H' locs' →
      W p l e R s m args below meth c H' locs' cells slots Q (F0 m r.1 lsA (r.2.2.1.map (zzV σ)))) : W p l e R s m args below meth c H locs cells slots Q (F0 m pc lsA (st.map (zzV σ))) := by
  have hE := hfr.2.2.2.2.2.2.1
  unfold zzPrim at h
  split at h
  · next i =>
    split at h
    · next y a st' hk =>
      split at h
      · next hcat =>
        cases h
        have hm := zzGet_mem hk
        have hw := fun w hw => ZW_of (zzMLw _ hm w hw).1 (zzMLw _ hm w hw).2
        refine W.objInit hx hb hown (hts _ (hw _ (List.mem_of_getElem? (i := 0) rfl))) (hts _ (hw _ (List.mem_of_getElem? (i := 1) rfl))) (hts _ (hw _ (List.mem_of_getElem? (i := 2) rfl))) (g := F0 m pc lsA (.ref (σ a) :: st'.map (zzV σ))) rfl (hl.1.trans hml.symm) rfl hd (by omega) ?_ (kk H locs hrel hS)
        have h1 := zzCat_map' σ st' hcat
        have h2 := lv_room (m := m) (pc := pc) (ls := lsA) (rest := (.ref (σ a) :: st'.map (zzV σ))) h1
        omega
      · cases h
    · cases h
  · next i =>
    split at h
    · next y n dp a sp b st' hk =>
      split at h
      · next q w hq hw0 =>
        split at h
        · next hcd =>
          cases h
          obtain ⟨hcat, hq8, hw8, g1, g2, g3, g4, g5⟩ := hcd
          have hm := zzGet_mem hk
          have hw := fun w hw => ZW_of (zzMLw _ hm w hw).1 (zzMLw _ hm w hw).2
          refine va_copyi hx hb (hml.trans hl.1.symm) hown (hts _ (hw _ (List.mem_of_getElem? (i := 0) rfl))) (hts _ (hw _ (List.mem_of_getElem? (i := 1) rfl))) (hts _ (hw _ (List.mem_of_getElem? (i := 2) rfl))) (hts _ (hw _ (List.mem_of_getElem? (i := 3) rfl))) hfr.1 hrel.2.1 (zzWs_D hσ hrel.1) hS b a 0 0 (by rw [zzWs_at hw0, zzCell_8 hw8]) (by rw [zzWs_at hq, zzCell_8 hq8]) rfl rfl rfl g1 g2 g3 g4 g5 (fun _ _ => rfl) (by omega) ?_ hd (fun H1 locs1 hP1 _ hS1 => ?_)
          · have h1 := zzCat_map' σ st' hcat
            have h2 : nativeFrameWords "java/lang/System" "arraycopy" 5 ≤ 100 := by decide +kernel
            omega
          · refine kk H1 locs1 ?_ hS1
            refine zzm_row hrel hq ?_ ?_ ?_ hP1
            · rfl
            · rw [zzCell_8 hq8]; dsimp only; rw [zzRo_eq]
            · exact fun x hxa => ⟨rfl, rfl, zzRo_ne hxa⟩
        · cases h
      · cases h
    · cases h
  · next i =>
    split at h
    · next y a st' hk =>
      split at h
      · next hcd =>
        cases h
        obtain ⟨g1, g2, hcat⟩ := hcd
        obtain ⟨j, hj, rfl, ej⟩ := zz_sub g1 g2
        rw [ej] at kk
        have hm := zzGet_mem hk
        intro T hT X
        have hsz := zz_size X hT hσ hrel hS h0 hc
        refine (?_ : W p l e R s m args below meth c H locs cells slots Q (F0 m pc lsA (.ref (σ (1000 + j)) :: st'.map (zzV σ)))) T hT X
        refine zz_call (r := some (.int (Int32.ofNat (zzTx j).length))) (Z' := Z) (va_runV (As := []) (rest := st'.map (zzV σ)) ⟨hx, hb, hml, hown, hts⟩ (zzj_length hj Z) (cwV 0 hts (zz_gi hm rfl (zzKi 20 rfl)) rfl rfl rfl (by decide +kernel) ⟨by show 2 + 1 ≤ _; omega, by show 8 + (1 + 11) + 80 ≤ _; omega⟩) ⟨zzPre_blind, vk_recv hE hj hS, fun U hU hW => zz_pre (as := [.ref (σ (1000 + j))]) hfr hrel hsz hS hU hW⟩ rfl rfl hl.1 rfl (lv_room (zzCat_map' σ st' hcat)) hd ⟨hcc, hss⟩) hS (fun H1 locs1 hrel1 hS1 => kk H1 locs1 hrel1 hS1)
      · cases h
    · next y k a st' hk =>
      split at h
      · next hcd =>
        cases h
        obtain ⟨g1, g2, hcat, hin⟩ := hcd
        obtain ⟨j, hj, rfl, ej⟩ := zz_sub g1 g2
        rw [ej] at kk hin
        have hm := zzGet_mem hk
        intro T hT X
        have hsz := zz_size X hT hσ hrel hS h0 hc
        refine (?_ : W p l e R s m args below meth c H locs cells slots Q (F0 m pc lsA (.int k :: .ref (σ (1000 + j)) :: st'.map (zzV σ)))) T hT X
        refine zz_call (r := some (.int (Int32.ofNat ((zzTx j).getD k.toNatClampNeg 0)))) (Z' := Z) (va_runV (As := [.int k]) (rest := st'.map (zzV σ)) ⟨hx, hb, hml, hown, hts⟩ (zzj_charAt hj hin Z) (cwV 1 hts (zz_gi hm rfl (zzKi 25 rfl)) rfl rfl rfl (by decide +kernel) ⟨by show 4 + 1 ≤ _; omega, by show 8 + (2 + 11) + 160 ≤ _; omega⟩) ⟨zzPre_blind, vk_recv hE hj hS, fun U hU hW => zz_pre (as := [.ref (σ (1000 + j)), .int k]) hfr hrel hsz hS hU hW⟩ rfl rfl hl.1 rfl (lv_room (zzCat_map' σ st' hcat)) hd ⟨hcc, hss⟩) hS (fun H1 locs1 hrel1 hS1 => kk H1 locs1 hrel1 hS1)
      · cases h
    · cases h
  · cases h
end ZZP
