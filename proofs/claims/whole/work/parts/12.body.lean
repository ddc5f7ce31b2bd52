/-! the body, by induction on the run -/
theorem zzPlain : ∀ c, c < 8 → plainName (zzR c) = true := by decide +kernel
theorem zzKd : ∀ y, y < zzLaw → (zzM y).2.2.2.2.2.2.1 = 2 → (zzM y).1.name = "<init>" := by decide +kernel
theorem zzEnt_sub (σ : Nat → Nat) (k : Nat) : ∀ (as : List Value) (i : Nat) (q : Nat × Value), q ∈ zzAs σ i (zzEnt as ++ List.replicate k zzU) → q ∈ lv_args i (as.map (zzV σ)) := by
  intro as
  induction as with
  | nil =>
    intro i q hq
    obtain ⟨j, v, h1, h2, -⟩ := (zzAs_mem σ _ _ _).mp hq
    exact absurd (List.eq_of_mem_replicate (List.mem_of_getElem? h1)) h2
  | cons v vs ih =>
    intro i q hq
    unfold zzEnt at hq
    rw [List.map_cons]
    unfold lv_args
    rw [zzV_cat]
    split at hq
    · next hc =>
      rw [List.cons_append, List.cons_append] at hq
      unfold zzAs at hq
      split at hq
      · next hv => rw [hv] at hc; cases hc
      · rcases List.mem_cons.mp hq with rfl | hq
        · exact List.mem_cons_self
        · unfold zzAs at hq
          rw [if_pos rfl] at hq
          rw [if_pos hc]
          exact List.mem_cons_of_mem _ (ih _ _ hq)
    · next hc =>
      rw [List.cons_append] at hq
      rw [if_neg hc]
      unfold zzAs at hq
      split at hq
      · exact List.mem_cons_of_mem _ (ih _ _ hq)
      · rcases List.mem_cons.mp hq with rfl | hq
        · exact List.mem_cons_self
        · exact List.mem_cons_of_mem _ (ih _ _ hq)
theorem zzEnt_len (σ : Nat → Nat) : ∀ as : List Value, (lg_sl (as.map (zzV σ))).length = (zzEnt as).length := by
  intro as
  induction as with
  | nil => rfl
  | cons v vs ih =>
    unfold lg_sl at ih ⊢
    unfold zzEnt
    rw [List.map_cons, List.flatMap_cons, List.length_append, ih, zzV_cat]
    split
    · simp; omega
    · simp; omega
theorem zzIn_len {y : Nat} {as : List Value} (h : (zzEnt as).length ≤ (zzM y).2.2.1) : (zzIn y as).length = (zzM y).2.2.1 := by
  unfold zzIn
  rw [List.length_append, List.length_replicate]
  omega
section ZZD
variable {l : Launch} {σ : Nat → Nat} {B : Nat} {dC : Nat → ClassId} {dI : Nat → Nat → Nat} {ca : Nat → ClassId} {sx : Int64 × (Nat → Int32)} {adV : Nat → Nat}
/-- what a run says of the machine -/
def zzBd (l : Launch) (σ : Nat → Nat) (B : Nat) (dC : Nat → ClassId) (dI : Nat → Nat → Nat) (ca : Nat → ClassId) (sx : Int64 × (Nat → Int32)) (adV : Nat → Nat) (n : Nat) : Prop :=
  ∀ (d y pc : Nat) (ls st : List Value) (Z : zzH) (r : Option Value) (Zf : zzH), zzExec n d y pc ls st Z = some (r, Zf) →
  ∀ (p : Program) (e : Env) (R : Room) (s : State) (m : MethodId) (args : Array Value) (below : List Frame) (meth : Method) (c : Code) (H : Heap) (locs : List Loc) (cells slots L0 S0 : Nat) (Q : State → Prop) (lsA : Array Slot),
    p.tables.exec = Jvm.exec → c.code = (zzM y).2.1 → c.maxLocals = (zzM y).2.2.1 → s.vm.findClass (zzR (zzM y).2.2.2.2.1) = some m.cls → (∀ w ∈ ZW, w.before args s = true) → zzFr B σ dC dI ca sx adV s s.heap →
    (((zzM y).2.2.2.2.2.2.1 == 2) = true → meth.name = "<init>") → (d + 9 ≤ R.frames ∧ 40 * d + 400 ≤ R.locals) → zzRel B σ dC dI ca sx Z H → va_S (fun q : Nat => B ≤ q) s.heap H locs → s.heap.size = B + L0 → cells + L0 = Z.1.length → slots + S0 = zzSl Z →
    Zf.1.length ≤ R.cells + L0 → zzSl Zf ≤ R.slots + S0 → lv_has lsA (zzM y).2.2.1 (zzAs σ 0 ls) → ls.length = (zzM y).2.2.1 →
    (∀ (pcf : Nat) (lsA' : Array Slot) (H' : Heap) (locs' : List Loc) (cells' slots' : Nat) (il : Instr × Nat) (st' : List Value), decode (zzM y).2.1 pcf = .ok il → zzRet (zzM y).2.2.2.1 il st' = some r → zzRel B σ dC dI ca sx Zf H' → va_S (fun q : Nat => B ≤ q) s.heap H' locs' → cells' + L0 = Zf.1.length → slots' + S0 = zzSl Zf →
      W p l e R s m args below meth c H' locs' cells' slots' Q (F0 m pcf lsA' (st'.map (zzV σ)))) →
    W p l e R s m args below meth c H locs cells slots Q (F0 m pc lsA (st.map (zzV σ)))
theorem zz_ret {p : Program} {e : Env} {R : Room} {s : State} {m : MethodId} {args : Array Value} {below : List Frame} {meth : Method} {c : Code} {H : Heap} {locs : List Loc} {mc ms : Nat} {cc : ByteArray} {pc : Nat} {lsA : Array Slot} {ret : Option FieldType} {il : Instr × Nat} {st : List Value} {r : Option Value} {Z : zzH}
    (hx : p.tables.exec = Jvm.exec) (hb : c.code = cc) (hr : meth.sig.returnType = ret) (hlocks : meth.locks = false) (hd : decode cc pc = .ok il) (h : zzRet ret il st = some r) (hrel : zzRel B σ dC dI ca sx Z H) (hS : va_S (fun q : Nat => B ≤ q) s.heap H locs) :
    W p l e R s m args below meth c H locs mc ms (MQ below (zzQ B σ dC dI ca sx r Z) args s mc ms (fun q : Nat => B ≤ q)) (F0 m pc lsA (st.map (zzV σ))) := by
  unfold zzRet at h
  split at h
  · cases h; exact W.iret hx hb hr (fun t ht _ => ⟨rfl, by rw [ht]; exact hrel, va_S.F hS ht⟩) (fun q h => hS.2.2 q h) hd hlocks
  · split at h
    · next hv =>
      cases h
      exact W.zret hx hb hr (by rcases hv with rfl | rfl <;> rfl) (fun t ht _ => ⟨rfl, by rw [ht]; exact hrel, va_S.F hS ht⟩) (fun q h => hS.2.2 q h) hd hlocks
    · cases h
  · cases h; exact W.lret hx hb hr (fun t ht _ => ⟨rfl, by rw [ht]; exact hrel, va_S.F hS ht⟩) (fun q h => hS.2.2 q h) hd hlocks
  · cases h; exact W.aret hx hb hr (Or.inl ⟨_, rfl⟩) (Or.inr ⟨_, rfl⟩) (fun t ht _ => ⟨rfl, by rw [ht]; exact hrel, va_S.F hS ht⟩) (fun q h => hS.2.2 q h) hd hlocks
  · cases h; exact W.aret hx hb hr (Or.inl ⟨_, rfl⟩) (Or.inl rfl) (fun t ht _ => ⟨rfl, by rw [ht]; exact hrel, va_S.F hS ht⟩) (fun q h => hS.2.2 q h) hd hlocks
  · cases h; exact W.vret hx hb hr (fun t ht _ => ⟨rfl, by rw [ht]; exact hrel, va_S.F hS ht⟩) (fun q h => hS.2.2 q h) hd hlocks
  · cases h
/-- a method's contract out of its run -/
theorem zzMet_of {n d y : Nat} {as : List Value} {Z Zf : zzH} {r : Option Value} (hB : zzBd l σ B dC dI ca sx adV n) (h : zzExec n d y 0 (zzIn y as) [] Z = some (r, Zf)) (hpl : plainName (zzM y).1.cls = true) (hcls : (zzM y).1.cls = zzR (zzM y).2.2.2.2.1) (hkd : (zzM y).2.2.2.2.2.2.1 = 2 → (zzM y).1.name = "<init>") (hlen : (zzEnt as).length ≤ (zzM y).2.2.1) :
    Met l (zzM y).1 (Jvm.Cond.code (zzM y).1 (zzM y).2.1 (zzM y).2.2.1 (zzM y).2.2.2.1 :: ZW) (zzRm d (Zf.1.length - Z.1.length) (zzSl Zf - zzSl Z)) (va_Pc (as.map (zzV σ)) (zzPre B σ dC dI ca sx adV Z)) (zzQ B σ dC dI ca sx r Zf) (Zf.1.length - Z.1.length) (zzSl Zf - zzSl Z) (fun q : Nat => B ≤ q) := by
  have hle := zzExec_le _ _ _ _ _ _ _ _ _ h
  refine zz_met hpl (by rw [zzEnt_len]; exact hlen) ?_
  intro p e s m below meth c hx hb hml hr hlocks hown hin hts hfr hrel hsz lsA hl
  have hS : va_S (fun q : Nat => B ≤ q) s.heap s.heap [] := va_S.rf
  refine hB d y 0 (zzIn y as) [] Z r Zf h p e _ s m _ below meth c s.heap [] 0 0 Z.1.length (zzSl Z) _ lsA hx hb hml (hcls ▸ hown) hts hfr (fun hk => hin.trans (hkd (by simpa using hk))) ⟨Nat.le_refl _, Nat.le_refl _⟩ hrel hS hsz (Nat.zero_add _) (Nat.zero_add _) (by show _ ≤ (Zf.1.length - Z.1.length) + _; omega) (by show _ ≤ (zzSl Zf - zzSl Z) + _; omega) (zz_mono hl (zzEnt_sub σ _ as 0)) (zzIn_len hlen) ?_
  intro pcf lsA' H' locs' cells' slots' il st' hd hret hrel' hS' hc' hs'
  have e1 : cells' = Zf.1.length - Z.1.length := by omega
  have e2 : slots' = zzSl Zf - zzSl Z := by omega
  rw [e1, e2]
  exact zz_ret hx hb hr hlocks hd hret hrel' hS'
end ZZD
