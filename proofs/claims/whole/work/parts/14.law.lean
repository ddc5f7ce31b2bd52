/-! the law's start: a run of the law's own body gives the claim -/
theorem zzM_law : zzM zzLaw = (yL_law, cL_law, 4, (some .boolean), 8, 1, 0, zzc_213) := by
  have e : zzMsA.length = 213 := by decide +kernel
  unfold zzM zzMs zzLaw
  rw [List.getD_eq_getElem?_getD, List.getElem?_append_right (by rw [e]; exact Nat.le_refl _), e]
  rfl
def zzTm (i : Nat) : Term := Term.string (zzR (zzKS.getD i ((0, 0), 0)).1.1) (zzKS.getD i ((0, 0), 0)).1.2
def zzLe : List Nat := zzKc.map List.length
def zzBy : List (List Int32) := zzKc.map fun l => l.map fun n => Int32.ofNat n
def zzFl : List Jvm.Cond := flatC (Jvm.Cond.and given_1 narrow_1)
set_option maxRecDepth 100000 in
theorem zzSt1 : ∀ i, i < 13 → Jvm.Cond.exactly (zzTm i) "java/lang/String" ∈ zzFl := by decide +kernel
set_option maxRecDepth 100000 in
theorem zzSt2 : ∀ i, i < 13 → Jvm.Cond.eq (.field (zzTm i) "java/lang/String" "coder" "B") (.int 0) ∈ zzFl := by decide +kernel
set_option maxRecDepth 100000 in
theorem zzSt3 : ∀ i, i < 13 → Jvm.Cond.arrayOf (.field (zzTm i) "java/lang/String" "value" "[B") .byte ∈ zzFl := by decide +kernel
set_option maxRecDepth 100000 in
theorem zzSt4 : ∀ i, i < 13 → Jvm.Cond.eq (.length (.field (zzTm i) "java/lang/String" "value" "[B")) (.int (Int32.ofNat (zzLe.getD i 0))) ∈ zzFl := by decide +kernel
set_option maxRecDepth 100000 in
theorem zzSt5 : ∀ i, i < 13 → ∀ j, j < zzLe.getD i 0 → Jvm.Cond.eq (.elem (.field (zzTm i) "java/lang/String" "value" "[B") (.int (Int32.ofNat j))) (.int ((zzBy.getD i []).getD j 0)) ∈ zzFl := by decide +kernel
set_option maxRecDepth 100000 in
theorem zzSt6 : ∀ i, i < 13 → ∀ j, j < 13 → i ≠ j → (Jvm.Cond.not (Jvm.Cond.eq (zzTm i) (zzTm j)) ∈ zzFl ∨ Jvm.Cond.not (Jvm.Cond.eq (zzTm j) (zzTm i)) ∈ zzFl) := by decide +kernel
theorem zzSt7 : ∀ i, i < 13 → zzLe.getD i 0 < 2 ^ 31 := by decide +kernel
theorem zzSt8 : ∀ r ∈ zzKS, r.2 < 13 ∧ zzTm r.2 = Term.string (zzR r.1.1) r.1.2 ∧ Jvm.Cond.stringRef (zzR r.1.1) r.1.2 (zzKt.getD r.2 "") ∈ lw_tbl := by decide +kernel
theorem zzSt9 : ∀ c, c < 8 → Jvm.Cond.instantiable (zzR c) (zzN c) ∈ lw_tbl := by decide +kernel
theorem zzStN : ∀ r ∈ zzNest, Jvm.Cond.methodLinkNest (zzR r.1) r.2.1 (zzM r.2.2).1 RX6 ∈ lw_tbl := by decide +kernel
theorem zzStA : Jvm.Cond.arrayOver (.object RX4) ∈ lw_tbl ∧ Jvm.Cond.laysStatic "java/lang/String" "COMPACT_STRINGS" "Z" ∈ lw_tbl ∧ Jvm.Cond.initialized "java/lang/String" ∈ lw_tbl ∧ Jvm.Cond.laysStatic "jdk/internal/util/Preconditions" "SIOOBE_FORMATTER" "Ljava/util/function/BiFunction;" ∈ lw_tbl ∧ Jvm.Cond.initialized "jdk/internal/util/Preconditions" ∈ lw_tbl := by decide +kernel
theorem zzStB : Jvm.Cond.eq (.static "java/lang/String" "COMPACT_STRINGS" "Z") (.int 1) ∈ zzFl ∧ Jvm.Cond.isRef (.static "jdk/internal/util/Preconditions" "SIOOBE_FORMATTER" "Ljava/util/function/BiFunction;") ∈ zzFl := by decide +kernel
/-- the memory at the law's start: nothing but the script -/
def zzZ0 (L : Nat) (xs : Nat → Int32) : zzH := ([], fun _ _ => none, fun a _ => if a = 2000 then Int64.ofNat L else 0, fun a k => if a = 2000 then xs k else 0)
theorem zz_arr {s : State} {args : Array Value} {ty : FieldType} (hp : refKind ty = false) (h : (Jvm.Cond.arrayClass ty).before args s = true) (hra : ∀ c, va_RA s c ty = (s.vm.findClass ("[" ++ ty.toString) = some c)) : ∃ c, ArrOfT s c ty ∧ va_RA s c ty := by
  obtain ⟨c, k, comp, h1, h2, h3⟩ := Cond.arrayClass_spec h
  exact ⟨c, fun n z => ⟨fun k h => (by cases h), k, h2, comp, h3⟩, by rw [hra]; exact h1⟩
set_option maxHeartbeats 2000000 in
theorem zz_whole (l : Launch) {p : Program} {e : Env} {s : State} {m : MethodId} {below : List Frame} {meth : Method} {c : Code} {b L : Nat} {xs : Nat → Int32} (hL : L ≤ 3072) (C0 : lw_At p s m meth c b L xs)
    (hrun : ∃ n Zf, zzExec n 2000 zzLaw 0 [.ref 2000, zzU, zzU, zzU] [] (zzZ0 L xs) = some (some (.int 1), Zf) ∧ Zf.1.length ≤ 600000 ∧ zzSl Zf ≤ 7302250) : W p l e room_1 s m #[Value.ref b] below meth c s.heap [] 0 0 (lw_Z below #[Value.ref b] s) (entryFrame m ([Value.ref b] : List Value).toArray 4) := by
  obtain ⟨n, Zf, hrun, hcells, hslots⟩ := hrun
  obtain ⟨hx, hb, hr, hml, hown, hts, hX, hbl, hlocks, hgv⟩ := id C0
  have hs : ∀ q ∈ zzFl, q.before #[Value.ref b] s = true := flat_of_before _ hgv
  have hA0 : ∀ a : Nat, a < s.heap.size → ¬ (fun q : Nat => s.heap.size ≤ q) a := fun a h => Nat.not_le.mpr h
  obtain ⟨adK, adV, hE, hev⟩ := vk_Sof (args := #[Value.ref b]) (s := s) (N := 13) (tm := zzTm) (len := zzLe) (byt := zzBy) (A := fun q : Nat => s.heap.size ≤ q) zzSt7 (fun i hi => hs _ (zzSt1 i hi)) (fun i hi => hs _ (zzSt2 i hi)) (fun i hi => hs _ (zzSt3 i hi)) (fun i hi => hs _ (zzSt4 i hi)) (fun i hi j hj => hs _ (zzSt5 i hi j hj)) (fun i j hi hj hij => (zzSt6 i hi j hj hij).elim (fun h => Or.inl (hs _ h)) (fun h => Or.inr (hs _ h))) hA0
  obtain ⟨dq, hdq⟩ : ∃ dq : Nat → ClassId × (Nat → Nat), ∀ k, k < 8 → u_Kn s (zzR k) (zzTf k) (zzN k) (dq k).1 (dq k).2 := by
    have h : ∀ k : Nat, ∃ q : ClassId × (Nat → Nat), k < 8 → u_Kn s (zzR k) (zzTf k) (zzN k) q.1 q.2 := by
      intro k
      by_cases hk : k < 8
      · obtain ⟨cC, iS, h⟩ := u_known (C := zzR k) (T := zzTf k) (N := zzN k) (n := zzN k) hts (fun w hw => (zzUw k hk w hw).1) (hts _ (zzSt9 k hk))
        exact ⟨(cC, iS), fun _ => h⟩
      · exact ⟨(0, fun _ => 0), fun h => absurd h hk⟩
    exact ⟨fun k => Classical.choose (h k), fun k hk => Classical.choose_spec (h k) hk⟩
  have hZW : ∀ w ∈ ZW, w.before #[Value.ref b] s = true := fun w hw => hts w (List.mem_filter.mp hw).1
  obtain ⟨c0, a01, a02⟩ := zz_arr (ty := .int) rfl (hZW _ zzArI.1) (fun c => rfl)
  obtain ⟨c1, a11, a12⟩ := zz_arr (ty := .boolean) rfl (hZW _ zzArI.2) (fun c => rfl)
  obtain ⟨comp, c2, k2, b1, -, b2, b3, b4⟩ := Cond.arrayOver_spec (hts _ zzStA.1)
  have hK : va_K (fun k => (dq k).1, fun k => (dq k).2) vwCl (zzTys (fun k => if k = 0 then c0 else if k = 1 then c1 else c2)) s := by
    refine ⟨fun c q hq => ?_, fun k q hq => ?_⟩
    · have hc : c < 8 := (List.getElem?_eq_some_iff.mp hq).1
      have h1 := zzCl_ok c hc
      rw [hq] at h1
      cases h1
      exact hdq c hc
    · match k, hq with
      | 0, hq => cases hq; exact ⟨a01, a02⟩
      | 1, hq => cases hq; exact ⟨a11, a12⟩
      | 2, hq => cases hq; exact ⟨fun n z => ⟨fun k h => (by cases h), k2, b2, comp, b3⟩, k2, comp, b2, b3, b1, b4⟩
  generalize hσd : (fun a : Nat => if a < 1000 then s.heap.size + a else if a < 2000 then adK (a - 1000) else b) = σ
  have hσ : ∀ a, a < 1000 → σ a = s.heap.size + a := fun a h => by rw [← hσd]; exact if_pos h
  have hσs : ∀ i, i < 13 → σ (1000 + i) = adK i := fun i h => by
    rw [← hσd]
    dsimp only
    rw [if_neg (by omega), if_pos (by omega), Nat.add_sub_cancel_left]
  have hσb : σ 2000 = b := by rw [← hσd]; rfl
  have hLn : (Int64.ofNat L).toNatClampNeg = L := by
    rw [Int64.toNatClampNeg_ofNat_of_lt]
    omega
  have hfr : zzFr s.heap.size σ (fun k => (dq k).1) (fun k => (dq k).2) (fun k => if k = 0 then c0 else if k = 1 then c1 else c2) (Int64.ofNat L, xs) adV s s.heap := by
    refine ⟨hK, va_AO.of (hts _ zzStA.1), fun r hr => va_Nw.of rfl (hts _ (zzStN r hr)), Nat.le_refl _, ⟨?_, by rw [hσb]; exact hbl⟩, ?_, ?_, ?_, ?_⟩
    · rw [hσb]
      refine Or.inr ?_
      show va_X b (Int64.ofNat L).toNatClampNeg xs s s.heap
      rw [hLn]
      exact hX
    · intro o i k hk
      obtain ⟨g1, g2, g3⟩ := zzSt8 _ (zzGet_mem hk)
      dsimp only at g1 g2 g3
      refine vk_R.of (hts _ g3) ?_
      rw [hσs k g1, ← g2]
      exact hev k g1
    · refine ⟨fun i hi => ?_, fun i j hi hj h => ?_⟩
      · dsimp only
        rw [hσs i hi]
        exact hE.1 i hi
      · dsimp only at h
        rw [hσs i hi, hσs j hj] at h
        exact hE.2 i j hi hj h
    · exact va_Zof (hts _ zzStA.2.1) (hts _ zzStA.2.2.1) (va_eqt (hs _ zzStB.1)) hA0
    · exact va_Zqof (hts _ zzStA.2.2.2.1) (hts _ zzStA.2.2.2.2) (hs _ zzStB.2) hA0
  have hS : va_S (fun q : Nat => s.heap.size ≤ q) s.heap s.heap [] := va_S.rf
  have hrel : zzRel s.heap.size σ (fun k => (dq k).1) (fun k => (dq k).2) (fun k => if k = 0 then c0 else if k = 1 then c1 else c2) (Int64.ofNat L, xs) (zzZ0 L xs) s.heap := by
    refine ⟨Nat.zero_le _, fun k q h => by simp [zzWs, zzZ0] at h, fun j => rfl, rfl⟩
  have hl := lv_entry ([.ref b]) (n := 4) (Nat.le_of_ble_eq_true rfl)
  rw [lg_entry_eq]
  generalize (lg_sl ([.ref b]) ++ List.replicate (4 - (lg_sl ([.ref b])).length) Slot.unset).toArray = lsA at hl ⊢
  have hl : lv_has lsA 4 [(0, .ref b)] := hl
  have hl2 : lv_has lsA (zzM zzLaw).2.2.1 (zzAs σ 0 [.ref 2000, zzU, zzU, zzU]) := by
    rw [zzM_law]
    have e1 : zzAs σ 0 [.ref 2000, zzU, zzU, zzU] = [(0, .ref (σ 2000))] := rfl
    rw [e1, hσb]
    exact hl
  have hfin := zzBd_all (l := l) (adV := adV) (sx := (Int64.ofNat L, xs)) (dC := fun k => (dq k).1) (dI := fun k => (dq k).2) (ca := fun k => if k = 0 then c0 else if k = 1 then c1 else c2) hσ n 2000 zzLaw 0 [.ref 2000, zzU, zzU, zzU] [] (zzZ0 L xs) (some (.int 1)) Zf hrun p e room_1 s m #[Value.ref b] below meth c s.heap [] 0 0 0 0 (lw_Z below #[Value.ref b] s) lsA hx (by rw [zzM_law]; exact hb) (by rw [zzM_law]; exact hml) (by rw [zzM_law]; exact hown) hZW hfr (fun h => absurd h (by rw [zzM_law]; decide)) ⟨Nat.le_of_ble_eq_true rfl, Nat.le_of_ble_eq_true rfl⟩ hrel hS rfl rfl rfl
  refine hfin hcells hslots hl2 (by rw [zzM_law]; rfl) ?_
  intro pcf lsA' H' locs' cells' slots' il st' hd hret hrel' hS' hc' hs'
  rw [zzM_law] at hd hret
  have hst : il = (.ireturn, 1) ∧ st' = [.int 1] := by
    unfold zzRet at hret
    split at hret
    · next h => cases h
    · split at hret
      · cases hret; exact ⟨rfl, rfl⟩
      · cases hret
    · cases hret
    · cases hret
    · cases hret
    · cases hret
    · cases hret
  obtain ⟨rfl, rfl⟩ := hst
  refine va_forget (fun q hq => hS'.2.2 q hq) ?_
  refine W.widen (k := 600000) (n := 7302250) (by omega) (by omega) ?_
  exact lw_ret hx hb hr hlocks hd
