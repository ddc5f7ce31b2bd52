/-! the law's start, up to its loop, with an empty script; then the script is put in -/
section ZZV2
variable {l : Launch} {σ : Nat → Nat} {B : Nat} {dC : Nat → ClassId} {dI : Nat → Nat → Nat} {ca : Nat → ClassId} {sx : Int64 × (Nat → Int32)} {adV : Nat → Nat}
set_option maxHeartbeats 4000000 in
theorem zz_invoke (hσ : ∀ a, a < 1000 → σ a = B + a) {n d' y y' pc : Nat} {ls st as rest : List Value} {Z Z1 : zzH} {v : Option Value} {il : Instr × Nat} {p : Program} {e : Env} {R : Room} {s : State} {m : MethodId} {args : Array Value} {below : List Frame} {meth : Method} {c : Code} {H : Heap} {locs : List Loc} {cells slots L0 S0 TC TS : Nat} {Q : State → Prop} {lsA : Array Slot}
    (hx : p.tables.exec = Jvm.exec) (hb : c.code = (zzM y).2.1) (hml : c.maxLocals = (zzM y).2.2.1) (hown : s.vm.findClass (zzR (zzM y).2.2.2.2.1) = some m.cls) (hts : ∀ w ∈ ZW, w.before args s = true) (hfr : zzFr B σ dC dI ca sx adV s s.heap) (hR : d' + 1 + 9 ≤ R.frames ∧ 40 * (d' + 1) + 400 ≤ R.locals) (hrel : zzRel B σ dC dI ca sx Z H) (hS : va_S (fun q : Nat => B ≤ q) s.heap H locs) (h0 : s.heap.size = B + L0) (hc : cells + L0 = Z.1.length) (hsl : slots + S0 = zzSl Z)
    (hcap : TC ≤ R.cells + L0) (hscap : TS ≤ R.slots + S0) (hle2 : Z1.1.length ≤ TC ∧ zzSl Z1 ≤ TS) (hl : lv_has lsA (zzM y).2.2.1 (zzAs σ 0 ls)) (hd : decode (zzM y).2.1 pc = .ok il) (hinv : zzInv (zzM y).2.2.2.2.1 il st Z = some (y', as, rest)) (hcall : zzExec n d' y' 0 (zzIn y' as) [] Z = some (v, Z1))
    (kont : ∀ (H1 : Heap) (locs1 : List Loc), zzRel B σ dC dI ca sx Z1 H1 → va_S (fun q : Nat => B ≤ q) s.heap H1 locs1 → W p l e R s m args below meth c H1 locs1 (cells + (Z1.1.length - Z.1.length)) (slots + (zzSl Z1 - zzSl Z)) Q (F0 m (pc + 3) lsA ((v.map (zzV σ)).toList ++ rest.map (zzV σ)))) :
    W p l e R s m args below meth c H locs cells slots Q (F0 m pc lsA (st.map (zzV σ))) := by
  have ih := zzBd_all (l := l) (adV := adV) (sx := sx) (dC := dC) (dI := dI) (ca := ca) hσ n
  obtain ⟨i, md, kd, hik, hg, hk1, hcat, hlen, hmode, has, hrest⟩ := zzInv_spec hinv
  have hle1 := zzExec_le _ _ _ _ _ _ _ _ _ hcall
  have hm := zzGet_mem hg
  have hkd3 : kd ≤ 3 := by omega
  have hw := fun w hw => hts w (ZW_of (zzMLw _ hm w hw).1 (zzMLw _ hm w hw).2)
  obtain ⟨q1, q2, q3, q4, q5, q6, q7, q8, q9, q10⟩ := zzMLr _ hm hkd3
  dsimp only at q1 q2 q3 q4 q5 q6 q7 q8 q9 q10
  have hM := zzMet_of ih hcall (q4 ▸ zzPlain _ q3) q4 (zzKd y' q1) hlen
  have hcode := zzMw y' q1
  intro T hT X
  have hsz := zz_size X hT hσ hrel hS h0 hc
  refine (?_ : W p l e R s m args below meth c H locs cells slots Q (F0 m pc lsA (st.map (zzV σ)))) T hT X
  have hcells : cells + (Z1.1.length - Z.1.length) ≤ R.cells ∧ slots + (zzSl Z1 - zzSl Z) ≤ R.slots := ⟨by omega, by omega⟩
  have hroom : (zzRm d' (Z1.1.length - Z.1.length) (zzSl Z1 - zzSl Z)).frames + 1 ≤ R.frames ∧ 8 + ((zzM y').2.2.1 + 11) + (zzRm d' (Z1.1.length - Z.1.length) (zzSl Z1 - zzSl Z)).locals ≤ R.locals := ⟨by show d' + 9 + 1 ≤ _; omega, by show 8 + ((zzM y').2.2.1 + 11) + (40 * d' + 400) ≤ _; omega⟩
  have hstk : st.map (zzV σ) = (as.map (zzV σ)).reverse ++ rest.map (zzV σ) := by rw [has, hrest]; exact zz_stk σ st _
  have hasl : as.length = (zzM y').2.2.2.2.2.1 := by rw [has, List.length_reverse, List.length_take]; omega
  have hcat' := zzCat_map' σ rest hcat
  rcases hmode with ⟨hmd, hkd⟩ | ⟨hmd, hkd, hrcv⟩ | ⟨hmd, hkd, hrcv⟩
  · have hil2 : il = (.invokestatic i, 3) := by
      rcases zzIk_spec hik with ⟨-, h⟩ | ⟨h, -⟩ | ⟨h, -⟩
      · exact h
      · omega
      · omega
    rw [hil2] at hd
    rw [if_pos hkd, Nat.sub_zero] at q7
    have hk : kd = 0 ∨ kd = 1 := by omega
    rcases hk with hk0 | hk1'
    · subst hk0
      exact zz_call (va_runS (As := as.map (zzV σ)) (rest := rest.map (zzV σ)) ⟨hx, hb, hml, hown, hts⟩ hM ⟨callB_of (zzM y').2.2.2.2.2.1 hts (zz_goodZ hcode) rfl rfl rfl (hw _ (List.mem_of_getElem? (i := 2) rfl)) (hw _ (List.mem_of_getElem? (i := 0) rfl)) ⟨q5, q6, q7⟩ hroom, hw _ (List.mem_of_getElem? (i := 1) rfl)⟩ ⟨zzPre_blind, fun U hU hW => zz_pre hfr hrel hsz hS hU hW⟩ rfl (by rw [List.length_map]; exact hasl) hl.1 hstk (lv_room hcat') hd hcells) hS kont
    · subst hk1'
      have hnw : va_Nw (.methodLinkNest (zzR (zzM y).2.2.2.2.1) i (zzM y').1 RX6) s := hfr.2.2.1 ((zzM y).2.2.2.2.1, i, y') (zzNest_in _ hm rfl)
      exact zz_call (va_runSN (As := as.map (zzV σ)) (rest := rest.map (zzV σ)) ⟨hx, hb, hml, hown, hts⟩ hM ⟨va_cnB (zzM y').2.2.2.2.2.1 hts (zz_goodZ hcode) rfl rfl rfl hnw (hw _ (List.mem_of_getElem? (i := 1) rfl)) ⟨q5, q6, q7⟩ hroom, hw _ (List.mem_of_getElem? (i := 0) rfl), trivial⟩ ⟨zzPre_blind, fun U hU hW => zz_pre hfr hrel hsz hS hU hW⟩ rfl (by rw [List.length_map]; exact hasl) hl.1 hstk (lv_room hcat') hd hcells) hS kont
  · have hil2 : il = (.invokevirtual i, 3) := by
      rcases zzIk_spec hik with ⟨h, -⟩ | ⟨-, h⟩ | ⟨h, -⟩
      · omega
      · exact h
      · omega
    rw [hil2] at hd
    subst hkd
    rw [if_neg (by omega)] at q7
    unfold zzRcv at hrcv
    split at hrcv
    · next a as' =>
      split at hrcv
      · next q hq =>
        have hqc : q.1 = (zzM y').2.2.2.2.1 := by simpa using hrcv
        have hq8 : q.1 < 8 := by rw [hqc]; exact q3
        have hstk2 : st.map (zzV σ) = (as'.map (zzV σ)).reverse ++ .ref (σ a) :: rest.map (zzV σ) := by
          rw [hstk, List.map_cons, List.reverse_cons, List.append_assoc]; rfl
        have hrc := va_recv hfr.1 hrel.2.1 (ci := q.1) (q0 := a) (zzCl_ok _ hq8) (by rw [zzWs_at hq, zzCell_o hq8])
        rw [hqc] at hrc
        exact zz_call (va_runV (C := zzR (zzM y').2.2.2.2.1) (As := as'.map (zzV σ)) (rest := rest.map (zzV σ)) ⟨hx, hb, hml, hown, hts⟩ hM ⟨callB_of ((zzM y').2.2.2.2.2.1 - 1) hts (zz_goodZ hcode) rfl rfl rfl (hw _ (List.mem_of_getElem? (i := 3) rfl)) (hw _ (List.mem_of_getElem? (i := 0) rfl)) ⟨q5, q6, q7⟩ hroom, hw _ (List.mem_of_getElem? (i := 1) rfl), hw _ (List.mem_of_getElem? (i := 2) rfl)⟩ ⟨zzPre_blind, hrc, fun U hU hW => zz_pre hfr hrel hsz hS hU hW⟩ rfl (by rw [List.length_map]; rw [← hasl]; simp) hl.1 hstk2 (lv_room hcat') hd hcells) hS kont
      · cases hrcv
    · cases hrcv
  · have hil2 : il = (.invokespecial i, 3) := by
      rcases zzIk_spec hik with ⟨h, -⟩ | ⟨h, -⟩ | ⟨-, h⟩
      · omega
      · omega
      · exact h
    rw [hil2] at hd
    subst hkd
    rw [if_neg (by omega)] at q7
    obtain ⟨hinit, hretn⟩ := q9 rfl
    unfold zzRcv at hrcv
    split at hrcv
    · next a as' =>
      have hstk2 : st.map (zzV σ) = (as'.map (zzV σ)).reverse ++ .ref (σ a) :: rest.map (zzV σ) := by
        rw [hstk, List.map_cons, List.reverse_cons, List.append_assoc]; rfl
      rw [hretn] at hM hcode
      exact zz_call (va_runI (As := as'.map (zzV σ)) (rest := rest.map (zzV σ)) ⟨hx, hb, hml, hown, hts⟩ hM ⟨callB_of ((zzM y').2.2.2.2.2.1 - 1) hts (zz_goodZ hcode) rfl rfl rfl (hw _ (List.mem_of_getElem? (i := 2) rfl)) (hw _ (List.mem_of_getElem? (i := 0) rfl)) ⟨q5, q6, q7⟩ hroom, hinit, hw _ (List.mem_of_getElem? (i := 1) rfl)⟩ ⟨zzPre_blind, fun U hU hW => zz_pre hfr hrel hsz hS hU hW⟩ rfl (by rw [List.length_map]; rw [← hasl]; simp) hl.1 hstk2 (lv_room hcat') hd hcells) hS kont
    · cases hrcv

def zzTo (stop : Nat) : Nat → Nat → Nat → Nat → List Value → List Value → zzH → Option (List Value × List Value × zzH)
  | 0, _, _, _, _, _, _ => none
  | n + 1, d, y, pc, ls, st, Z =>
    if pc = stop then some (ls, st, Z) else
    match zzLk (zzM y).2.2.2.2.2.2.2 pc with
    | none => none
    | some il =>
      match zzRet (zzM y).2.2.2.1 il st with
      | some _ => none
      | none =>
        match zzInv (zzM y).2.2.2.2.1 il st Z with
        | some (y', as, rest) =>
          (match d with
          | 0 => none
          | d' + 1 =>
            (match zzExec n d' y' 0 (zzIn y' as) [] Z with
            | none => none
            | some (r, Z') => zzTo stop n (d' + 1) y (pc + 3) ls (r.toList ++ rest) Z'))
        | none =>
          match zzStep (zzM y).2.2.2.2.1 ((zzM y).2.2.2.2.2.2.1 == 2) pc il ls st Z with
          | none => none
          | some (pc', ls', st', Z') => zzTo stop n d y pc' ls' st' Z'
theorem zzTo_le {stop : Nat} : ∀ (n d y pc : Nat) (ls st : List Value) (Z : zzH) (ls1 st1 : List Value) (Z1 : zzH), zzTo stop n d y pc ls st Z = some (ls1, st1, Z1) → Z.1.length ≤ Z1.1.length ∧ zzSl Z ≤ zzSl Z1 := by
  intro n
  induction n with
  | zero => intro d y pc ls st Z ls1 st1 Z1 h; simp [zzTo] at h
  | succ n ih =>
    intro d y pc ls st Z ls1 st1 Z1 h
    unfold zzTo at h
    split at h
    · cases h; exact ⟨Nat.le_refl _, Nat.le_refl _⟩
    split at h
    · cases h
    split at h
    · cases h
    split at h
    · split at h
      · cases h
      split at h
      · cases h
      · next h4 =>
        have a1 := zzExec_le _ _ _ _ _ _ _ _ _ h4
        have a2 := ih _ _ _ _ _ _ _ _ _ h
        exact ⟨Nat.le_trans a1.1 a2.1, Nat.le_trans a1.2 a2.2⟩
    · split at h
      · cases h
      · next h4 =>
        have a1 := zzStep_le h4
        have a2 := ih _ _ _ _ _ _ _ _ _ h
        exact ⟨Nat.le_trans a1.1 a2.1, Nat.le_trans a1.2 a2.2⟩
set_option maxHeartbeats 4000000 in
theorem zzTo_sound (hσ : ∀ a, a < 1000 → σ a = B + a) (stop : Nat) : ∀ (n d y pc : Nat) (ls st : List Value) (Z : zzH) (ls1 st1 : List Value) (Z1 : zzH), zzTo stop n d y pc ls st Z = some (ls1, st1, Z1) →
  ∀ (p : Program) (e : Env) (R : Room) (s : State) (m : MethodId) (args : Array Value) (below : List Frame) (meth : Method) (c : Code) (H : Heap) (locs : List Loc) (cells slots L0 S0 : Nat) (Q : State → Prop) (lsA : Array Slot),
    p.tables.exec = Jvm.exec → c.code = (zzM y).2.1 → c.maxLocals = (zzM y).2.2.1 → s.vm.findClass (zzR (zzM y).2.2.2.2.1) = some m.cls → (∀ w ∈ ZW, w.before args s = true) → zzFr B σ dC dI ca sx adV s s.heap →
    (((zzM y).2.2.2.2.2.2.1 == 2) = true → meth.name = "<init>") → (d + 9 ≤ R.frames ∧ 40 * d + 400 ≤ R.locals) → zzRel B σ dC dI ca sx Z H → va_S (fun q : Nat => B ≤ q) s.heap H locs → s.heap.size = B + L0 → cells + L0 = Z.1.length → slots + S0 = zzSl Z →
    Z1.1.length ≤ R.cells + L0 → zzSl Z1 ≤ R.slots + S0 → lv_has lsA (zzM y).2.2.1 (zzAs σ 0 ls) → ls.length = (zzM y).2.2.1 →
    (∀ (lsA' : Array Slot) (H' : Heap) (locs' : List Loc) (cells' slots' : Nat), lv_has lsA' (zzM y).2.2.1 (zzAs σ 0 ls1) → ls1.length = (zzM y).2.2.1 → zzRel B σ dC dI ca sx Z1 H' → va_S (fun q : Nat => B ≤ q) s.heap H' locs' → cells' + L0 = Z1.1.length → slots' + S0 = zzSl Z1 →
      W p l e R s m args below meth c H' locs' cells' slots' Q (F0 m stop lsA' (st1.map (zzV σ)))) →
    W p l e R s m args below meth c H locs cells slots Q (F0 m pc lsA (st.map (zzV σ))) := by
  intro n
  induction n with
  | zero => intro d y pc ls st Z ls1 st1 Z1 h; simp [zzTo] at h
  | succ n ih =>
    intro d y pc ls st Z ls1 st1 Z1 h p e R s m args below meth c H locs cells slots L0 S0 Q lsA hx hb hml hown hts hfr hini hR hrel hS h0 hc hsl hcap hscap hl hn hret
    unfold zzTo at h
    split at h
    · next hpc => cases h; subst hpc; exact hret lsA H locs cells slots hl hn hrel hS hc hsl
    split at h
    · cases h
    next il hil =>
    have hd := zzMd_at hil
    split at h
    · cases h
    split at h
    · next y' as rest hinv =>
      split at h
      · cases h
      next d' =>
      split at h
      · cases h
      next v Z2 hcall =>
      have hle1 := zzExec_le _ _ _ _ _ _ _ _ _ hcall
      have hle2 := zzTo_le _ _ _ _ _ _ _ _ _ _ h
      refine zz_invoke (TC := Z1.1.length) (TS := zzSl Z1) hσ hx hb hml hown hts hfr hR hrel hS h0 hc hsl hcap hscap hle2 hl hd hinv hcall (fun H1 locs1 hr1 hS1 => ?_)
      have e1 : (v.map (zzV σ)).toList ++ rest.map (zzV σ) = (v.toList ++ rest).map (zzV σ) := by cases v <;> simp
      rw [e1]
      exact ih _ _ _ _ _ _ _ _ _ h p e R s m args below meth c H1 locs1 _ _ L0 S0 Q lsA hx hb hml hown hts hfr hini hR hr1 hS1 h0 (by omega) (by omega) hcap hscap hl hn hret
    · split at h
      · cases h
      · next pc' ls' st' Z' hstep =>
        have hle1 := zzStep_le hstep
        have hle2 := zzTo_le _ _ _ _ _ _ _ _ _ _ h
        dsimp only at hle1
        exact zzs_step hx hb hml hown hts hfr hσ hini ⟨by omega, by omega⟩ hrel hS h0 hc hsl hl hn hd hstep (by dsimp only; omega) (by dsimp only; omega) (fun lsA' H' locs' cells' slots' hl' hn' hr' hS' hc' hs' => ih _ _ _ _ _ _ _ _ _ h p e R s m args below meth c H' locs' cells' slots' L0 S0 Q lsA' hx hb hml hown hts hfr hini hR hr' hS' h0 hc' hs' hcap hscap hl' hn' hret)
end ZZV2
