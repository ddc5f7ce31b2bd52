/-! every run of the function is a run of the machine -/
theorem zzIk_spec {il : Instr × Nat} {i md : Nat} (h : zzIk il = some (i, md)) : (md = 0 ∧ il = (.invokestatic i, 3)) ∨ (md = 2 ∧ il = (.invokevirtual i, 3)) ∨ (md = 3 ∧ il = (.invokespecial i, 3)) := by
  unfold zzIk at h
  split at h
  · cases h; exact Or.inl ⟨rfl, rfl⟩
  · cases h; exact Or.inr (Or.inl ⟨rfl, rfl⟩)
  · cases h; exact Or.inr (Or.inr ⟨rfl, rfl⟩)
  · cases h
theorem zzInv_spec {own : Nat} {il : Instr × Nat} {st as rest : List Value} {Z : zzH} {y : Nat} (h : zzInv own il st Z = some (y, as, rest)) : ∃ i md kd, zzIk il = some (i, md) ∧ zzGet zzML own i = some (kd, y) ∧ (zzM y).2.2.2.2.2.1 ≤ st.length ∧ zzCat rest ≤ 8 ∧ (zzEnt as).length ≤ (zzM y).2.2.1 ∧ ((md = 0 ∧ kd ≤ 1) ∨ (md = 2 ∧ kd = 2 ∧ zzRcv 2 y as Z = true) ∨ (md = 3 ∧ kd = 3 ∧ zzRcv 3 y as Z = true)) ∧ as = (st.take (zzM y).2.2.2.2.2.1).reverse ∧ rest = st.drop (zzM y).2.2.2.2.2.1 := by
  unfold zzInv at h
  split at h
  · cases h
  · next i md hik =>
    split at h
    · cases h
    · next kd y0 hg =>
      split at h
      · next hc =>
        cases h
        exact ⟨i, md, kd, hik, hg, hc.1, hc.2.1, hc.2.2.1, hc.2.2.2, rfl, rfl⟩
      · cases h
theorem zzMd_at {y pc : Nat} {il : Instr × Nat} (h : zzLk (zzM y).2.2.2.2.2.2.2 pc = some il) : decode (zzM y).2.1 pc = .ok il := zzMd y (pc, il) (zzLk_mem h)
theorem zzNest_in : ∀ r ∈ zzML, r.2.1 = 1 → (r.1.1, r.1.2, r.2.2) ∈ zzNest := by decide +kernel
section ZZT
variable {p : Program} {l : Launch} {e : Env} {R : Room} {s : State} {m : MethodId} {args : Array Value} {below : List Frame} {meth : Method} {c : Code} {H : Heap} {locs : List Loc} {cells slots : Nat} {Q : State → Prop}
variable {cc : ByteArray} {pc nL : Nat} {lsA : Array Slot} {σ : Nat → Nat} {ls : List Value} {own B : Nat} {dC : Nat → ClassId} {dI : Nat → Nat → Nat} {ca : Nat → ClassId} {sx : Int64 × (Nat → Int32)} {adV : Nat → Nat}
set_option maxHeartbeats 2000000 in
theorem zzs_step {il : Instr × Nat} {st : List Value} {Z : zzH} {r : zzS} {ini : Bool} {L0 S0 : Nat} (hx : p.tables.exec = Jvm.exec) (hb : c.code = cc) (hml : c.maxLocals = nL) (hown : s.vm.findClass (zzR own) = some m.cls) (hts : ∀ w ∈ ZW, w.before args s = true)
    (hfr : zzFr B σ dC dI ca sx adV s s.heap) (hσ : ∀ a, a < 1000 → σ a = B + a) (hini : ini = true → meth.name = "<init>") (hR : 9 ≤ R.frames ∧ 400 ≤ R.locals) (hrel : zzRel B σ dC dI ca sx Z H) (hS : va_S (fun q : Nat => B ≤ q) s.heap H locs) (h0 : s.heap.size = B + L0) (hc : cells + L0 = Z.1.length) (hsl : slots + S0 = zzSl Z)
    (hl : lv_has lsA nL (zzAs σ 0 ls)) (hn : ls.length = nL) (hd : decode cc pc = .ok il) (h : zzStep own ini pc il ls st Z = some r) (hcap : r.2.2.2.1.length ≤ R.cells + L0) (hscap : zzSl r.2.2.2 ≤ R.slots + S0)
    (kk : ∀ (lsA' : Array Slot) (H' : Heap) (locs' : List Loc) (cells' slots' : Nat), lv_has lsA' nL (zzAs σ 0 r.2.1) → r.2.1.length = nL → zzRel B σ dC dI ca sx r.2.2.2 H' → va_S (fun q : Nat => B ≤ q) s.heap H' locs' → cells' + L0 = r.2.2.2.1.length → slots' + S0 = zzSl r.2.2.2 →
      W p l e R s m args below meth c H' locs' cells' slots' Q (F0 m r.1 lsA' (r.2.2.1.map (zzV σ)))) : W p l e R s m args below meth c H locs cells slots Q (F0 m pc lsA (st.map (zzV σ))) := by
  have hle := zzStep_le h
  rcases zzStep_cases h with ⟨v, hv, rfl⟩ | ⟨i, t, v, h1, h2, h3, rfl⟩ | ⟨i, t, v, st', ls', h1, rfl, h3, h4, rfl⟩ | h | h | h | h
  · exact zzs_push hx hb hown hts hfr.2.2.2.2.2.1 hd hv (kk lsA H locs cells slots hl hn hrel hS hc hsl)
  · exact zzs_ld hx hb hd h1 (zz_at hl h2 (zzIs_nU h3)) h3 (kk lsA H locs cells slots hl hn hrel hS hc hsl)
  · exact zzs_sd hx hb hd h1 h3 h4 hl hn (fun lsA' hl' => kk lsA' H locs cells slots hl' ((zzSet_len h4).trans hn) hrel hS hc hsl)
  · refine zzs_ar hx hb hd h (fun e1 e2 => ?_)
    rw [e1, e2] at kk
    exact kk lsA H locs cells slots hl hn hrel hS hc hsl
  · refine zzs_flow hx hb hd h hl hn (fun lsA' hl' hn' e2 => ?_)
    rw [e2] at kk
    exact kk lsA' H locs cells slots hl' hn' hrel hS hc hsl
  · refine zzs_mem hx hb hown hts hfr hσ hini hrel hS h0 hc hsl hd h hcap hscap (fun H' locs' cells' slots' e1 hr hS' hc' hs' => ?_)
    rw [e1] at kk
    exact kk lsA H' locs' cells' slots' hl hn hr hS' hc' hs'
  · obtain ⟨e1, e2⟩ := zzPrim_le h
    have e3 : zzSl r.2.2.2 = zzSl Z := by unfold zzSl; rw [e1]
    rw [e1] at hcap
    rw [e3] at hscap
    refine zzs_prim hx hb hml hl hown hts hfr hσ hR hrel hS h0 hc (by omega) (by omega) hd h (fun H' locs' hr hS' => ?_)
    rw [e2] at kk
    exact kk lsA H' locs' cells slots hl hn hr hS' (by rw [e1]; exact hc) (by rw [e3]; exact hsl)
end ZZT
section ZZU
variable {l : Launch} {σ : Nat → Nat} {B : Nat} {dC : Nat → ClassId} {dI : Nat → Nat → Nat} {ca : Nat → ClassId} {sx : Int64 × (Nat → Int32)} {adV : Nat → Nat}
theorem zz_stk (σ : Nat → Nat) (st : List Value) (k : Nat) : st.map (zzV σ) = (((st.take k).reverse).map (zzV σ)).reverse ++ (st.drop k).map (zzV σ) := by
  rw [← List.map_reverse, List.reverse_reverse, ← List.map_append, List.take_append_drop]
set_option maxHeartbeats 4000000 in
theorem zzBd_all (hσ : ∀ a, a < 1000 → σ a = B + a) : ∀ n, zzBd l σ B dC dI ca sx adV n := by
  intro n
  induction n with
  | zero => intro d y pc ls st Z r Zf h; simp [zzExec] at h
  | succ n ih =>
    intro d y pc ls st Z r Zf h p e R s m args below meth c H locs cells slots L0 S0 Q lsA hx hb hml hown hts hfr hini hR hrel hS h0 hc hsl hcap hscap hl hn hret
    have hleA := zzExec_le _ _ _ _ _ _ _ _ _ h
    unfold zzExec at h
    split at h
    · cases h
    next il hil =>
    have hd := zzMd_at hil
    split at h
    · next r' hr' => cases h; exact hret pc lsA H locs cells slots il st hd hr' hrel hS hc hsl
    split at h
    · next y' as rest hinv =>
      split at h
      · cases h
      next d' =>
      split at h
      · cases h
      next v Z1 hcall =>
      obtain ⟨i, md, kd, hik, hg, hk1, hcat, hlen, hmode, has, hrest⟩ := zzInv_spec hinv
      have hle1 := zzExec_le _ _ _ _ _ _ _ _ _ hcall
      have hle2 := zzExec_le _ _ _ _ _ _ _ _ _ h
      have hm := zzGet_mem hg
      have hkd3 : kd ≤ 3 := by omega
      have hw := fun w hw => hts w (ZW_of (zzMLw _ hm w hw).1 (zzMLw _ hm w hw).2)
      obtain ⟨q1, q2, q3, q4, q5, q6, q7, q8, q9, q10⟩ := zzMLr _ hm hkd3
      dsimp only at q1 q2 q3 q4 q5 q6 q7 q8 q9 q10
      have hM := zzMet_of ih hcall (q4 ▸ zzPlain _ q3) q4 (zzKd y' q1) hlen
      have hcode := zzMw y' q1
      intro T hT X
      have hsz := zz_size X hT hσ hrel hS h0 hc
      refine (?_ : W p l e R s m args below meth c H locs cells slots Q (F0 m pc lsA (st.map (zzV σ)))) T hT X
      have kont : ∀ (H1 : Heap) (locs1 : List Loc), zzRel B σ dC dI ca sx Z1 H1 → va_S (fun q : Nat => B ≤ q) s.heap H1 locs1 → W p l e R s m args below meth c H1 locs1 (cells + (Z1.1.length - Z.1.length)) (slots + (zzSl Z1 - zzSl Z)) Q (F0 m (pc + 3) lsA ((v.map (zzV σ)).toList ++ rest.map (zzV σ))) := by
        intro H1 locs1 hr1 hS1
        have e1 : (v.map (zzV σ)).toList ++ rest.map (zzV σ) = (v.toList ++ rest).map (zzV σ) := by cases v <;> simp
        rw [e1]
        exact ih _ _ _ _ _ _ _ _ h p e R s m args below meth c H1 locs1 _ _ L0 S0 Q lsA hx hb hml hown hts hfr hini hR hr1 hS1 h0 (by omega) (by omega) hcap hscap hl hn hret
      have hcells : cells + (Z1.1.length - Z.1.length) ≤ R.cells ∧ slots + (zzSl Z1 - zzSl Z) ≤ R.slots := ⟨by omega, by omega⟩
      have hroom : (zzRm d' (Z1.1.length - Z.1.length) (zzSl Z1 - zzSl Z)).frames + 1 ≤ R.frames ∧ 8 + ((zzM y').2.2.1 + 11) + (zzRm d' (Z1.1.length - Z.1.length) (zzSl Z1 - zzSl Z)).locals ≤ R.locals := ⟨by show d' + 9 + 1 ≤ _; omega, by show 8 + ((zzM y').2.2.1 + 11) + (40 * d' + 400) ≤ _; omega⟩
      have hstk : st.map (zzV σ) = (as.map (zzV σ)).reverse ++ rest.map (zzV σ) := by rw [has, hrest]; exact zz_stk σ st _
      have hasl : as.length = (zzM y').2.2.2.2.2.1 := by rw [has, List.length_reverse, List.length_take]; omega
      have hcat' := zzCat_map' σ rest hcat
      rcases hmode with ⟨hmd, hkd⟩ | ⟨hmd, hkd, hrcv⟩ | ⟨hmd, hkd, hrcv⟩
      · have hil2 : il = (.invokestatic i, 3) := by
          rcases zzIk_spec hik with ⟨-, h⟩ | ⟨h, -⟩ | ⟨h, -⟩
          · exact h
          · omega
          · omega
        rw [hil2] at hd
        rw [if_pos hkd, Nat.sub_zero] at q7
        have hk : kd = 0 ∨ kd = 1 := by omega
        rcases hk with hk0 | hk1'
        · subst hk0
          exact zz_call (va_runS (As := as.map (zzV σ)) (rest := rest.map (zzV σ)) ⟨hx, hb, hml, hown, hts⟩ hM ⟨callB_of (zzM y').2.2.2.2.2.1 hts (zz_goodZ hcode) rfl rfl rfl (hw _ (List.mem_of_getElem? (i := 2) rfl)) (hw _ (List.mem_of_getElem? (i := 0) rfl)) ⟨q5, q6, q7⟩ hroom, hw _ (List.mem_of_getElem? (i := 1) rfl)⟩ ⟨zzPre_blind, fun U hU hW => zz_pre hfr hrel hsz hS hU hW⟩ rfl (by rw [List.length_map]; exact hasl) hl.1 hstk (lv_room hcat') hd hcells) hS kont
        · subst hk1'
          have hnw : va_Nw (.methodLinkNest (zzR (zzM y).2.2.2.2.1) i (zzM y').1 RX6) s := hfr.2.2.1 ((zzM y).2.2.2.2.1, i, y') (zzNest_in _ hm rfl)
          exact zz_call (va_runSN (As := as.map (zzV σ)) (rest := rest.map (zzV σ)) ⟨hx, hb, hml, hown, hts⟩ hM ⟨va_cnB (zzM y').2.2.2.2.2.1 hts (zz_goodZ hcode) rfl rfl rfl hnw (hw _ (List.mem_of_getElem? (i := 1) rfl)) ⟨q5, q6, q7⟩ hroom, hw _ (List.mem_of_getElem? (i := 0) rfl), trivial⟩ ⟨zzPre_blind, fun U hU hW => zz_pre hfr hrel hsz hS hU hW⟩ rfl (by rw [List.length_map]; exact hasl) hl.1 hstk (lv_room hcat') hd hcells) hS kont
      · have hil2 : il = (.invokevirtual i, 3) := by
          rcases zzIk_spec hik with ⟨h, -⟩ | ⟨-, h⟩ | ⟨h, -⟩
          · omega
          · exact h
          · omega
        rw [hil2] at hd
        subst hkd
        rw [if_neg (by omega)] at q7
        unfold zzRcv at hrcv
        split at hrcv
        · next a as' =>
          split at hrcv
          · next q hq =>
            have hqc : q.1 = (zzM y').2.2.2.2.1 := by simpa using hrcv
            have hq8 : q.1 < 8 := by rw [hqc]; exact q3
            have hstk2 : st.map (zzV σ) = (as'.map (zzV σ)).reverse ++ .ref (σ a) :: rest.map (zzV σ) := by
              rw [hstk, List.map_cons, List.reverse_cons, List.append_assoc]; rfl
            have hrc := va_recv hfr.1 hrel.2.1 (ci := q.1) (q0 := a) (zzCl_ok _ hq8) (by rw [zzWs_at hq, zzCell_o hq8])
            rw [hqc] at hrc
            exact zz_call (va_runV (C := zzR (zzM y').2.2.2.2.1) (As := as'.map (zzV σ)) (rest := rest.map (zzV σ)) ⟨hx, hb, hml, hown, hts⟩ hM ⟨callB_of ((zzM y').2.2.2.2.2.1 - 1) hts (zz_goodZ hcode) rfl rfl rfl (hw _ (List.mem_of_getElem? (i := 3) rfl)) (hw _ (List.mem_of_getElem? (i := 0) rfl)) ⟨q5, q6, q7⟩ hroom, hw _ (List.mem_of_getElem? (i := 1) rfl), hw _ (List.mem_of_getElem? (i := 2) rfl)⟩ ⟨zzPre_blind, hrc, fun U hU hW => zz_pre hfr hrel hsz hS hU hW⟩ rfl (by rw [List.length_map]; rw [← hasl]; simp) hl.1 hstk2 (lv_room hcat') hd hcells) hS kont
          · cases hrcv
        · cases hrcv
      · have hil2 : il = (.invokespecial i, 3) := by
          rcases zzIk_spec hik with ⟨h, -⟩ | ⟨h, -⟩ | ⟨-, h⟩
          · omega
          · omega
          · exact h
        rw [hil2] at hd
        subst hkd
        rw [if_neg (by omega)] at q7
        obtain ⟨hinit, hretn⟩ := q9 rfl
        unfold zzRcv at hrcv
        split at hrcv
        · next a as' =>
          have hstk2 : st.map (zzV σ) = (as'.map (zzV σ)).reverse ++ .ref (σ a) :: rest.map (zzV σ) := by
            rw [hstk, List.map_cons, List.reverse_cons, List.append_assoc]; rfl
          rw [hretn] at hM hcode
          exact zz_call (va_runI (As := as'.map (zzV σ)) (rest := rest.map (zzV σ)) ⟨hx, hb, hml, hown, hts⟩ hM ⟨callB_of ((zzM y').2.2.2.2.2.1 - 1) hts (zz_goodZ hcode) rfl rfl rfl (hw _ (List.mem_of_getElem? (i := 2) rfl)) (hw _ (List.mem_of_getElem? (i := 0) rfl)) ⟨q5, q6, q7⟩ hroom, hinit, hw _ (List.mem_of_getElem? (i := 1) rfl)⟩ ⟨zzPre_blind, fun U hU hW => zz_pre hfr hrel hsz hS hU hW⟩ rfl (by rw [List.length_map]; rw [← hasl]; simp) hl.1 hstk2 (lv_room hcat') hd hcells) hS kont
        · cases hrcv
    · split at h
      · cases h
      · next pc' ls' st' Z' hstep =>
        have hle1 := zzStep_le hstep
        have hle2 := zzExec_le _ _ _ _ _ _ _ _ _ h
        dsimp only at hle1
        exact zzs_step hx hb hml hown hts hfr hσ hini ⟨by omega, by omega⟩ hrel hS h0 hc hsl hl hn hd hstep (by dsimp only; omega) (by dsimp only; omega) (fun lsA' H' locs' cells' slots' hl' hn' hr' hS' hc' hs' => ih _ _ _ _ _ _ _ _ h p e R s m args below meth c H' locs' cells' slots' L0 S0 Q lsA' hx hb hml hown hts hfr hini hR hr' hS' h0 hc' hs' hcap hscap hl' hn' hret)
end ZZU
