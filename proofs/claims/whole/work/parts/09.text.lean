/-! the two methods of a text, over the JDK's own code -/
section ZZJ
variable {l : Launch} {σ : Nat → Nat} {B : Nat} {dC : Nat → ClassId} {dI : Nat → Nat → Nat} {ca : Nat → ClassId} {sx : Int64 × (Nat → Int32)} {adV : Nat → Nat}
set_option maxHeartbeats 1000000 in
theorem zz_met {y : MethodName} {bytes : ByteArray} {maxL mc ms : Nat} {ret : Option FieldType} {as : List Value} {r : Option Value} {Z Z' : zzH} {rm : Room} (hpl : plainName y.cls = true) (hlen : (lg_sl as).length ≤ maxL)
    (body : ∀ (p : Program) (e : Env) (s : State) (m : MethodId) (below : List Frame) (meth : Method) (c : Code), p.tables.exec = Jvm.exec → c.code = bytes → c.maxLocals = maxL → meth.sig.returnType = ret → meth.locks = false → s.vm.findClass y.cls = some m.cls → meth.name = y.name → (∀ w ∈ ZW, w.before as.toArray s = true) → zzFr B σ dC dI ca sx adV s s.heap → zzRel B σ dC dI ca sx Z s.heap → s.heap.size = B + Z.1.length → ∀ lsA : Array Slot, lv_has lsA maxL (lv_args 0 as) →
      W p l e rm s m as.toArray below meth c s.heap [] 0 0 (MQ below (zzQ B σ dC dI ca sx r Z') as.toArray s mc ms (fun q : Nat => B ≤ q)) (F0 m 0 lsA [])) :
    Met l y (Jvm.Cond.code y bytes maxL ret :: ZW) rm (va_Pc as (zzPre B σ dC dI ca sx adV Z)) (zzQ B σ dC dI ca sx r Z') mc ms (fun q : Nat => B ≤ q) := by
  refine Met.ofW (cc := bytes) (maxL := maxL) (ret := ret) hpl rfl ?_
  intro p e s m args below meth c s₁ BB hml hv
  obtain ⟨rfl, hfr, hrel, hsz⟩ := hv
  have hx := BB.exec
  have hb := BB.bytes
  have hr := BB.returns
  have hts := atoms_spec (ws := Jvm.Cond.code y bytes maxL ret :: ZW) BB.pre
  have hown : s.vm.findClass y.cls = some m.cls := findClass_of_methodNamed BB.named
  have hlocks := BB.notSynchronized
  have hin := (name_of_methodNamed BB.named BB.method).1
  have hl := lv_entry as (n := maxL) hlen
  rw [lg_entry_eq]
  generalize (lg_sl as ++ List.replicate (maxL - (lg_sl as).length) Slot.unset).toArray = lsA at hl ⊢
  exact body p e s m below meth c hx hb hml hr hlocks hown hin (fun w hw => hts w (List.mem_cons_of_mem _ hw)) hfr hrel hsz lsA hl
def zzRj (k : Nat) : Room := { frames := k, cells := 0, slots := 0, locals := 40 * k }
def zzJw : List Cond := [.fieldLink RJ0 38 "java/lang/String" "COMPACT_STRINGS" "Z", .fieldLink RJ0 15 "java/lang/String" "coder" "B", .fieldLink RJ0 9 "java/lang/String" "value" "[B", .methodLink RJ0 335 yJ0_coder_7d493, .instanceMethod yJ0_coder_7d493, .selects RJ0 yJ0_coder_7d493 yJ0_coder_7d493, .initialized RJ0, .methodLink RJ0 492 yJ0_isLatin1_aae02, .instanceMethod yJ0_isLatin1_aae02, .selects RJ0 yJ0_isLatin1_aae02 yJ0_isLatin1_aae02, .methodLink RJ0 495 yJ1_charAt_3b067, .static yJ1_charAt_3b067, .initialized RJ1, .methodLink RJ1 9 yJ0_checkIndex_df160, .static yJ0_checkIndex_df160, .fieldLink RJ0 1053 "jdk/internal/util/Preconditions" "SIOOBE_FORMATTER" "Ljava/util/function/BiFunction;", .methodLink RJ0 1059 yJ3_checkIndex_8e157, .static yJ3_checkIndex_8e157, .initialized RJ3,
  .code yJ0_coder_7d493 cJ0_coder_7d493 1 (some .byte), .code yJ0_length_8abf5 cJ0_length_8abf5 1 (some .int), .code yJ0_isLatin1_aae02 cJ0_isLatin1_aae02 1 (some .boolean), .code yJ3_checkIndex_8e157 cJ3_checkIndex_8e157 3 (some .int), .code yJ0_checkIndex_df160 cJ0_checkIndex_df160 2 none, .code yJ1_charAt_3b067 cJ1_charAt_3b067 2 (some .char), .code yJ0_charAt_5068e cJ0_charAt_5068e 2 (some .char)]
set_option maxRecDepth 100000 in
theorem zzJwI : ∀ w ∈ zzJw, w ∈ lw_tbl ∧ goodWord w = true := by decide +kernel
theorem zzJW {w : Cond} (h : w ∈ zzJw) : w ∈ ZW := ZW_of (zzJwI w h).1 (zzJwI w h).2
theorem zzJg {ws : List Cond} (h : ∀ w ∈ ws, w ∈ zzJw ∨ w ∈ ZW) : GoodIn ZW ws := fun w hw => (h w hw).elim (fun h => ⟨zzJW h, ZW_good (zzJW h)⟩) (fun h => ⟨h, ZW_good h⟩)
theorem zzKi {w : Cond} (k : Nat) (h : zzJw[k]? = some w) : w ∈ ZW := zzJW (List.mem_of_getElem? h)
theorem zzJgc {pre : List Cond} {w : Cond} (h : ∀ x ∈ pre, x ∈ zzJw) (hw : w ∈ zzJw) : GoodIn ZW (pre ++ (w :: ZW)) := zzJg fun x hx => (List.mem_append.mp hx).elim (fun h1 => Or.inl (h x h1)) (fun h1 => (List.mem_cons.mp h1).elim (fun e => Or.inl (e ▸ hw)) Or.inr)
section DEC
theorem zzd_coder_0 : decode cJ0_coder_7d493 0 = .ok (.getstatic 38, 3) := by decide +kernel
theorem zzd_coder_3 : decode cJ0_coder_7d493 3 = .ok (.ifCond .eq 10, 3) := by decide +kernel
theorem zzd_coder_6 : decode cJ0_coder_7d493 6 = .ok (.aload_n 0, 1) := by decide +kernel
theorem zzd_coder_7 : decode cJ0_coder_7d493 7 = .ok (.getfield 15, 3) := by decide +kernel
theorem zzd_coder_10 : decode cJ0_coder_7d493 10 = .ok (.goto 4, 3) := by decide +kernel
theorem zzd_coder_14 : decode cJ0_coder_7d493 14 = .ok (.ireturn, 1) := by decide +kernel
theorem zzd_length_0 : decode cJ0_length_8abf5 0 = .ok (.aload_n 0, 1) := by decide +kernel
theorem zzd_length_1 : decode cJ0_length_8abf5 1 = .ok (.getfield 9, 3) := by decide +kernel
theorem zzd_length_4 : decode cJ0_length_8abf5 4 = .ok (.arraylength, 1) := by decide +kernel
theorem zzd_length_5 : decode cJ0_length_8abf5 5 = .ok (.aload_n 0, 1) := by decide +kernel
theorem zzd_length_6 : decode cJ0_length_8abf5 6 = .ok (.invokevirtual 335, 3) := by decide +kernel
theorem zzd_length_9 : decode cJ0_length_8abf5 9 = .ok (.ishr, 1) := by decide +kernel
theorem zzd_length_10 : decode cJ0_length_8abf5 10 = .ok (.ireturn, 1) := by decide +kernel
theorem zzd_isLatin1_0 : decode cJ0_isLatin1_aae02 0 = .ok (.getstatic 38, 3) := by decide +kernel
theorem zzd_isLatin1_3 : decode cJ0_isLatin1_aae02 3 = .ok (.ifCond .eq 14, 3) := by decide +kernel
theorem zzd_isLatin1_6 : decode cJ0_isLatin1_aae02 6 = .ok (.aload_n 0, 1) := by decide +kernel
theorem zzd_isLatin1_7 : decode cJ0_isLatin1_aae02 7 = .ok (.getfield 15, 3) := by decide +kernel
theorem zzd_isLatin1_10 : decode cJ0_isLatin1_aae02 10 = .ok (.ifCond .ne 7, 3) := by decide +kernel
theorem zzd_isLatin1_13 : decode cJ0_isLatin1_aae02 13 = .ok (.iconst 1, 1) := by decide +kernel
theorem zzd_isLatin1_14 : decode cJ0_isLatin1_aae02 14 = .ok (.goto 4, 3) := by decide +kernel
theorem zzd_isLatin1_18 : decode cJ0_isLatin1_aae02 18 = .ok (.ireturn, 1) := by decide +kernel
theorem zzd_pci_0 : decode cJ3_checkIndex_8e157 0 = .ok (.iload_n 0, 1) := by decide +kernel
theorem zzd_pci_1 : decode cJ3_checkIndex_8e157 1 = .ok (.ifCond .lt 8, 3) := by decide +kernel
theorem zzd_pci_4 : decode cJ3_checkIndex_8e157 4 = .ok (.iload_n 0, 1) := by decide +kernel
theorem zzd_pci_5 : decode cJ3_checkIndex_8e157 5 = .ok (.iload_n 1, 1) := by decide +kernel
theorem zzd_pci_6 : decode cJ3_checkIndex_8e157 6 = .ok (.if_icmp .lt 10, 3) := by decide +kernel
theorem zzd_pci_16 : decode cJ3_checkIndex_8e157 16 = .ok (.iload_n 0, 1) := by decide +kernel
theorem zzd_pci_17 : decode cJ3_checkIndex_8e157 17 = .ok (.ireturn, 1) := by decide +kernel
theorem zzd_sci_0 : decode cJ0_checkIndex_df160 0 = .ok (.iload_n 0, 1) := by decide +kernel
theorem zzd_sci_1 : decode cJ0_checkIndex_df160 1 = .ok (.iload_n 1, 1) := by decide +kernel
theorem zzd_sci_2 : decode cJ0_checkIndex_df160 2 = .ok (.getstatic 1053, 3) := by decide +kernel
theorem zzd_sci_5 : decode cJ0_checkIndex_df160 5 = .ok (.invokestatic 1059, 3) := by decide +kernel
theorem zzd_sci_8 : decode cJ0_checkIndex_df160 8 = .ok (.pop, 1) := by decide +kernel
theorem zzd_sci_9 : decode cJ0_checkIndex_df160 9 = .ok (.return_, 1) := by decide +kernel
theorem zzd_lch_0 : decode cJ1_charAt_3b067 0 = .ok (.iload_n 1, 1) := by decide +kernel
theorem zzd_lch_1 : decode cJ1_charAt_3b067 1 = .ok (.aload_n 0, 1) := by decide +kernel
theorem zzd_lch_2 : decode cJ1_charAt_3b067 2 = .ok (.arraylength, 1) := by decide +kernel
theorem zzd_lch_3 : decode cJ1_charAt_3b067 3 = .ok (.invokestatic 9, 3) := by decide +kernel
theorem zzd_lch_6 : decode cJ1_charAt_3b067 6 = .ok (.aload_n 0, 1) := by decide +kernel
theorem zzd_lch_7 : decode cJ1_charAt_3b067 7 = .ok (.iload_n 1, 1) := by decide +kernel
theorem zzd_lch_8 : decode cJ1_charAt_3b067 8 = .ok (.baload, 1) := by decide +kernel
theorem zzd_lch_9 : decode cJ1_charAt_3b067 9 = .ok (.sipush 255, 3) := by decide +kernel
theorem zzd_lch_12 : decode cJ1_charAt_3b067 12 = .ok (.iand, 1) := by decide +kernel
theorem zzd_lch_13 : decode cJ1_charAt_3b067 13 = .ok (.i2c, 1) := by decide +kernel
theorem zzd_lch_14 : decode cJ1_charAt_3b067 14 = .ok (.ireturn, 1) := by decide +kernel
theorem zzd_charAt_0 : decode cJ0_charAt_5068e 0 = .ok (.aload_n 0, 1) := by decide +kernel
theorem zzd_charAt_1 : decode cJ0_charAt_5068e 1 = .ok (.invokevirtual 492, 3) := by decide +kernel
theorem zzd_charAt_4 : decode cJ0_charAt_5068e 4 = .ok (.ifCond .eq 12, 3) := by decide +kernel
theorem zzd_charAt_7 : decode cJ0_charAt_5068e 7 = .ok (.aload_n 0, 1) := by decide +kernel
theorem zzd_charAt_8 : decode cJ0_charAt_5068e 8 = .ok (.getfield 9, 3) := by decide +kernel
theorem zzd_charAt_11 : decode cJ0_charAt_5068e 11 = .ok (.iload_n 1, 1) := by decide +kernel
theorem zzd_charAt_12 : decode cJ0_charAt_5068e 12 = .ok (.invokestatic 495, 3) := by decide +kernel
theorem zzd_charAt_15 : decode cJ0_charAt_5068e 15 = .ok (.ireturn, 1) := by decide +kernel
end DEC
set_option maxHeartbeats 1000000 in
theorem zzj_coder {i : Nat} (hi : i < 13) (Z : zzH) : Met l yJ0_coder_7d493 (Jvm.Cond.code yJ0_coder_7d493 cJ0_coder_7d493 1 (some .byte) :: ZW) (zzRj 1) (va_Pc [.ref (σ (1000 + i))] (zzPre B σ dC dI ca sx adV Z)) (zzQ B σ dC dI ca sx (some (.int 0)) Z) 0 0 (fun q : Nat => B ≤ q) := by
  refine zz_met (by decide) (Nat.le_refl 1) ?_
  intro p e s m below meth c hx hb hml hr hlocks hown hin hts hfr hrel hsz lsA hl
  obtain ⟨-, -, -, -, -, -, hE, hZ, -⟩ := hfr
  have hS : va_S (fun q : Nat => B ≤ q) s.heap s.heap [] := va_S.rf
  refine va_gets hx hb hZ hS hown (hts _ (zzKi 0 rfl)) (fun x h => h) zzd_coder_0 ?_
  refine lv_if_eq (tgt := 13) hx hb zzd_coder_3 (by decide) (fun q => absurd q (by decide)) (fun _ => ?_)
  refine lv_aload_n hx hb zzd_coder_6 rfl (lv_at hl 0 rfl) ?_
  refine vk_getf hx hb (hE.1 i hi).2.1 hS hown (hts _ (zzKi 1 rfl)) (fun x h => h) zzd_coder_7 ?_
  refine lv_goto (tgt := 14) hx hb zzd_coder_10 (by decide) ?_
  exact W.zret hx hb hr rfl (fun t ht _ => ⟨rfl, by rw [ht]; exact hrel, va_S.F hS ht⟩) (fun q h => by cases h) zzd_coder_14 hlocks
set_option maxHeartbeats 1000000 in
theorem zzj_length {i : Nat} (hi : i < 13) (Z : zzH) : Met l yJ0_length_8abf5 (Jvm.Cond.code yJ0_length_8abf5 cJ0_length_8abf5 1 (some .int) :: ZW) (zzRj 2) (va_Pc [.ref (σ (1000 + i))] (zzPre B σ dC dI ca sx adV Z)) (zzQ B σ dC dI ca sx (some (.int (Int32.ofNat (zzTx i).length))) Z) 0 0 (fun q : Nat => B ≤ q) := by
  refine zz_met (by decide) (Nat.le_refl 1) ?_
  intro p e s m below meth c hx hb hml hr hlocks hown hin hts hfr hrel hsz lsA hl
  obtain ⟨-, -, -, -, -, -, hE, hZ, -⟩ := id hfr
  have hS : va_S (fun q : Nat => B ≤ q) s.heap s.heap [] := va_S.rf
  refine lv_aload_n hx hb zzd_length_0 rfl (lv_at hl 0 rfl) ?_
  refine vk_getf hx hb (hE.1 i hi).2.2.1 hS hown (hts _ (zzKi 2 rfl)) (fun x h => h) zzd_length_1 ?_
  refine va_tlen hx hb (hE.1 i hi).2.2.2 hS rfl zzd_length_4 ?_
  refine lv_aload_n hx hb zzd_length_5 rfl (lv_at hl 0 rfl) ?_
  refine zz_call (r := some (.int 0)) (Z' := Z) (va_runV (As := []) (rest := [_]) ⟨hx, hb, hml, hown, hts⟩ (zzj_coder hi Z) (cwV 0 hts (zzJgc (pre := [.methodLink RJ0 335 yJ0_coder_7d493, .instanceMethod yJ0_coder_7d493, .selects RJ0 yJ0_coder_7d493 yJ0_coder_7d493, .initialized RJ0]) (by decide +kernel) (List.mem_of_getElem? (i := 19) rfl)) rfl rfl rfl (by decide +kernel) ⟨Nat.le_of_ble_eq_true rfl, Nat.le_of_ble_eq_true rfl⟩) ⟨zzPre_blind, vk_recv hE hi hS, fun U hU hW => zz_pre (as := [.ref (σ (1000 + i))]) hfr hrel hsz hS hU hW⟩ rfl rfl hl.1 rfl (lv_room (Nat.le_of_ble_eq_true rfl)) zzd_length_6 ⟨Nat.le_refl 0, Nat.le_refl 0⟩) hS (fun H1 locs1 hrel1 hS1 => ?_)
  refine lv_ishr hx hb zzd_length_9 ?_
  have hv : (Int32.ofNat ((zzKc.map List.length).getD i 0) >>> ((0 : Int32) &&& 31)) = Int32.ofNat (zzTx i).length := by
    unfold zzTx
    rw [List.getD_eq_getElem?_getD, List.getElem?_map, List.getD_eq_getElem?_getD]
    cases zzKc[i]? <;> simp
  rw [hv]
  exact W.iret hx hb hr (fun t ht _ => ⟨rfl, by rw [ht]; exact hrel1, va_S.F hS1 ht⟩) (fun q h => hS1.2.2 q h) zzd_length_10 hlocks
set_option maxHeartbeats 1000000 in
theorem zzj_isLatin1 {i : Nat} (hi : i < 13) (Z : zzH) : Met l yJ0_isLatin1_aae02 (Jvm.Cond.code yJ0_isLatin1_aae02 cJ0_isLatin1_aae02 1 (some .boolean) :: ZW) (zzRj 1) (va_Pc [.ref (σ (1000 + i))] (zzPre B σ dC dI ca sx adV Z)) (zzQ B σ dC dI ca sx (some (.int 1)) Z) 0 0 (fun q : Nat => B ≤ q) := by
  refine zz_met (by decide) (Nat.le_refl 1) ?_
  intro p e s m below meth c hx hb hml hr hlocks hown hin hts hfr hrel hsz lsA hl
  obtain ⟨-, -, -, -, -, -, hE, hZ, -⟩ := hfr
  have hS : va_S (fun q : Nat => B ≤ q) s.heap s.heap [] := va_S.rf
  refine va_gets hx hb hZ hS hown (hts _ (zzKi 0 rfl)) (fun x h => h) zzd_isLatin1_0 ?_
  refine lv_if_eq (tgt := 17) hx hb zzd_isLatin1_3 (by decide) (fun q => absurd q (by decide)) (fun _ => ?_)
  refine lv_aload_n hx hb zzd_isLatin1_6 rfl (lv_at hl 0 rfl) ?_
  refine vk_getf hx hb (hE.1 i hi).2.1 hS hown (hts _ (zzKi 1 rfl)) (fun x h => h) zzd_isLatin1_7 ?_
  refine lv_if_ne (tgt := 17) hx hb zzd_isLatin1_10 (by decide) (fun q => absurd rfl q) (fun _ => ?_)
  refine lv_iconst (v := 1) hx hb zzd_isLatin1_13 (by decide) ?_
  refine lv_goto (tgt := 18) hx hb zzd_isLatin1_14 (by decide) ?_
  exact W.zret hx hb hr rfl (fun t ht _ => ⟨rfl, by rw [ht]; exact hrel, va_S.F hS ht⟩) (fun q h => by cases h) zzd_isLatin1_18 hlocks
set_option maxHeartbeats 1000000 in
theorem zzj_pci {k n : Int32} {f : Value} (h0 : ¬ k < 0) (h1 : k < n) (hf : f.category = 1) (Z : zzH) : Met l yJ3_checkIndex_8e157 (Jvm.Cond.code yJ3_checkIndex_8e157 cJ3_checkIndex_8e157 3 (some .int) :: ZW) (zzRj 1) (va_Pc [.int k, .int n, f] (zzPre B σ dC dI ca sx adV Z)) (zzQ B σ dC dI ca sx (some (.int k)) Z) 0 0 (fun q : Nat => B ≤ q) := by
  refine zz_met (by decide) (by simp only [lg_sl, List.flatMap_cons, List.flatMap_nil, hf]; exact Nat.le_refl 3) ?_
  intro p e s m below meth c hx hb hml hr hlocks hown hin hts hfr hrel hsz lsA hl
  have hl : lv_has lsA 3 [(0, .int k), (1, .int n), (2, f)] := hl
  have hS : va_S (fun q : Nat => B ≤ q) s.heap s.heap [] := va_S.rf
  refine lv_iload_n hx hb zzd_pci_0 rfl (lv_at hl 0 rfl) ?_
  refine lv_if_lt (tgt := 9) hx hb zzd_pci_1 (by decide) (fun q => absurd q h0) (fun _ => ?_)
  refine lv_iload_n hx hb zzd_pci_4 rfl (lv_at hl 0 rfl) ?_
  refine lv_iload_n hx hb zzd_pci_5 rfl (lv_at hl 1 rfl) ?_
  refine lv_icmp_lt (tgt := 16) hx hb zzd_pci_6 (by decide) (fun _ => ?_) (fun q => absurd h1 q)
  refine lv_iload_n hx hb zzd_pci_16 rfl (lv_at hl 0 rfl) ?_
  exact W.iret hx hb hr (fun t ht _ => ⟨rfl, by rw [ht]; exact hrel, va_S.F hS ht⟩) (fun q h => by cases h) zzd_pci_17 hlocks
set_option maxHeartbeats 1000000 in
theorem zzj_sci {k n : Int32} (h0 : ¬ k < 0) (h1 : k < n) (Z : zzH) : Met l yJ0_checkIndex_df160 (Jvm.Cond.code yJ0_checkIndex_df160 cJ0_checkIndex_df160 2 none :: ZW) (zzRj 2) (va_Pc [.int k, .int n] (zzPre B σ dC dI ca sx adV Z)) (zzQ B σ dC dI ca sx none Z) 0 0 (fun q : Nat => B ≤ q) := by
  refine zz_met (by decide) (Nat.le_refl 2) ?_
  intro p e s m below meth c hx hb hml hr hlocks hown hin hts hfr hrel hsz lsA hl
  have hl : lv_has lsA 2 [(0, .int k), (1, .int n)] := hl
  have hS : va_S (fun q : Nat => B ≤ q) s.heap s.heap [] := va_S.rf
  have hF : va_Zq "jdk/internal/util/Preconditions" "SIOOBE_FORMATTER" "Ljava/util/function/BiFunction;" (fun q : Nat => B ≤ q) s s.heap := hfr.2.2.2.2.2.2.2.2
  have go : ∀ f : Value, f.category = 1 → va_Z "jdk/internal/util/Preconditions" "SIOOBE_FORMATTER" "Ljava/util/function/BiFunction;" f (fun q : Nat => B ≤ q) s s.heap → W p l e (zzRj 2) s m [Value.int k, Value.int n].toArray below meth c s.heap [] 0 0 (MQ below (zzQ B σ dC dI ca sx none Z) [Value.int k, Value.int n].toArray s 0 0 (fun q : Nat => B ≤ q)) (F0 m 0 lsA []) := by
    intro f hfc hZf
    refine lv_iload_n hx hb zzd_sci_0 rfl (lv_at hl 0 rfl) ?_
    refine lv_iload_n hx hb zzd_sci_1 rfl (lv_at hl 1 rfl) ?_
    refine va_gets hx hb hZf hS hown (hts _ (zzKi 15 rfl)) (fun x h => h) zzd_sci_2 ?_
    refine zz_call (r := some (.int k)) (Z' := Z) (va_runS (As := [.int k, .int n, f]) (rest := []) ⟨hx, hb, hml, hown, hts⟩ (zzj_pci h0 h1 hfc Z) ⟨callB_of 3 hts (zzJgc (pre := []) (by decide +kernel) (List.mem_of_getElem? (i := 22) rfl)) rfl rfl rfl (hts _ (zzKi 18 rfl)) (hts _ (zzKi 16 rfl)) (by decide +kernel) ⟨Nat.le_of_ble_eq_true rfl, Nat.le_of_ble_eq_true rfl⟩, hts _ (zzKi 17 rfl)⟩ ⟨zzPre_blind, fun U hU hW => zz_pre (as := [.int k, .int n, f]) hfr hrel hsz hS hU hW⟩ rfl rfl hl.1 rfl (lv_room (Nat.le_of_ble_eq_true rfl)) zzd_sci_5 ⟨Nat.le_refl 0, Nat.le_refl 0⟩) hS (fun H1 locs1 hrel1 hS1 => ?_)
    refine lv_pop hx hb zzd_sci_8 rfl ?_
    exact W.vret hx hb hr (fun t ht _ => ⟨rfl, by rw [ht]; exact hrel1, va_S.F hS1 ht⟩) (fun q h => hS1.2.2 q h) zzd_sci_9 hlocks
  rcases hF with h | ⟨t, h⟩
  · exact go _ rfl h
  · exact go _ rfl h
theorem zz_lt_of_in {k : Int32} {n : Nat} (h : vp_in k n) (hn : n < 2 ^ 31) : ¬ k < 0 ∧ k < Int32.ofNat n ∧ k.toNatClampNeg < n := by
  unfold vp_in at h
  have h1 : ¬ k < 0 := fun q => h (Or.inl q)
  have h2 : k.toNatClampNeg < n := Nat.lt_of_not_le fun q => h (Or.inr q)
  refine ⟨h1, ?_, h2⟩
  rw [Int32.lt_iff_toInt_lt]
  have e1 : (Int32.ofNat n).toInt = n := nI_toInt hn
  have hz : (0 : Int) ≤ k.toInt := by
    have := Int32.not_lt.mp h1
    simpa using Int32.le_iff_toInt_le.mp this
  have e2 : k.toInt = (k.toNatClampNeg : Int) := by
    show k.toInt = ((k.toInt.toNat : Nat) : Int)
    omega
  rw [e1, e2]
  omega
theorem zzTx_ok : ∀ i, i < 13 → (zzTx i).length < 1000 ∧ ∀ k, k < (zzTx i).length → (((Int32.ofNat ((zzTx i).getD k 0)) &&& (Int16.ofInt 255).toInt32) = Int32.ofNat ((zzTx i).getD k 0) ∧ ((Int32.ofNat ((zzTx i).getD k 0)).toUInt32 % 65536).toInt32 = Int32.ofNat ((zzTx i).getD k 0) ∧ narrow .char (.int (Int32.ofNat ((zzTx i).getD k 0))) = .int (Int32.ofNat ((zzTx i).getD k 0))) := by decide +kernel
theorem zzKc_get {i : Nat} : (zzKc.map List.length).getD i 0 = (zzTx i).length := by
  unfold zzTx
  rw [List.getD_eq_getElem?_getD, List.getElem?_map, List.getD_eq_getElem?_getD]
  cases zzKc[i]? <;> rfl
theorem zzKc_ch {i k : Nat} (h : k < (zzTx i).length) : ((zzKc.map fun l => l.map fun n => Int32.ofNat n).getD i []).getD k 0 = Int32.ofNat ((zzTx i).getD k 0) := by
  have e : (zzKc.map fun l => l.map fun n => Int32.ofNat n).getD i [] = (zzTx i).map fun n => Int32.ofNat n := by
    unfold zzTx
    rw [List.getD_eq_getElem?_getD, List.getElem?_map, List.getD_eq_getElem?_getD]
    cases zzKc[i]? <;> rfl
  rw [e, List.getD_eq_getElem?_getD, List.getElem?_map, List.getD_eq_getElem?_getD, List.getElem?_eq_getElem h]
  rfl
set_option maxHeartbeats 1000000 in
theorem zzj_lch {i : Nat} (hi : i < 13) {k : Int32} (hk : zzIx k (zzTx i).length) (Z : zzH) : Met l yJ1_charAt_3b067 (Jvm.Cond.code yJ1_charAt_3b067 cJ1_charAt_3b067 2 (some .char) :: ZW) (zzRj 3) (va_Pc [.ref (adV i), .int k] (zzPre B σ dC dI ca sx adV Z)) (zzQ B σ dC dI ca sx (some (.int (Int32.ofNat ((zzTx i).getD k.toNatClampNeg 0)))) Z) 0 0 (fun q : Nat => B ≤ q) := by
  refine zz_met (by decide) (Nat.le_refl 2) ?_
  intro p e s m below meth c hx hb hml hr hlocks hown hin hts hfr hrel hsz lsA hl
  have hl : lv_has lsA 2 [(0, .ref (adV i)), (1, .int k)] := hl
  obtain ⟨-, -, -, -, -, -, hE, hZ, -⟩ := id hfr
  have hS : va_S (fun q : Nat => B ≤ q) s.heap s.heap [] := va_S.rf
  obtain ⟨k0, k1, k2⟩ := zz_lt_of_in (n := (zzTx i).length) hk (by have := (zzTx_ok i hi).1; omega)
  obtain ⟨t1, t2, t3⟩ := (zzTx_ok i hi).2 _ k2
  refine lv_iload_n hx hb zzd_lch_0 rfl (lv_at hl 1 rfl) ?_
  refine lv_aload_n hx hb zzd_lch_1 rfl (lv_at hl 0 rfl) ?_
  refine va_tlen hx hb (hE.1 i hi).2.2.2 hS (by rw [zzKc_get]) zzd_lch_2 ?_
  refine zz_call (r := none) (Z' := Z) (va_runS (As := [.int k, .int (Int32.ofNat (zzTx i).length)]) (rest := []) ⟨hx, hb, hml, hown, hts⟩ (zzj_sci k0 k1 Z) ⟨callB_of 2 hts (zzJgc (pre := []) (by decide +kernel) (List.mem_of_getElem? (i := 23) rfl)) rfl rfl rfl (hts _ (zzKi 6 rfl)) (hts _ (zzKi 13 rfl)) (by decide +kernel) ⟨Nat.le_of_ble_eq_true rfl, Nat.le_of_ble_eq_true rfl⟩, hts _ (zzKi 14 rfl)⟩ ⟨zzPre_blind, fun U hU hW => zz_pre (as := [.int k, .int (Int32.ofNat (zzTx i).length)]) hfr hrel hsz hS hU hW⟩ rfl rfl hl.1 rfl (lv_room (Nat.le_of_ble_eq_true rfl)) zzd_lch_3 ⟨Nat.le_refl 0, Nat.le_refl 0⟩) hS (fun H1 locs1 hrel1 hS1 => ?_)
  refine lv_aload_n hx hb zzd_lch_6 rfl (lv_at hl 0 rfl) ?_
  refine lv_iload_n hx hb zzd_lch_7 rfl (lv_at hl 1 rfl) ?_
  refine va_tb hx hb (hE.1 i hi).2.2.2 hS1 (by rw [zzKc_get]; exact hk) (by rw [zzKc_ch k2]) zzd_lch_8 ?_
  refine lv_sipush hx hb zzd_lch_9 rfl ?_
  refine lv_iand hx hb zzd_lch_12 ?_
  rw [t1]
  refine lv_i2c hx hb zzd_lch_13 t2 ?_
  exact W.zret hx hb hr t3 (fun t ht _ => ⟨rfl, by rw [ht]; exact hrel1, va_S.F hS1 ht⟩) (fun q h => hS1.2.2 q h) zzd_lch_14 hlocks
set_option maxHeartbeats 1000000 in
theorem zzj_charAt {i : Nat} (hi : i < 13) {k : Int32} (hk : zzIx k (zzTx i).length) (Z : zzH) : Met l yJ0_charAt_5068e (Jvm.Cond.code yJ0_charAt_5068e cJ0_charAt_5068e 2 (some .char) :: ZW) (zzRj 4) (va_Pc [.ref (σ (1000 + i)), .int k] (zzPre B σ dC dI ca sx adV Z)) (zzQ B σ dC dI ca sx (some (.int (Int32.ofNat ((zzTx i).getD k.toNatClampNeg 0)))) Z) 0 0 (fun q : Nat => B ≤ q) := by
  refine zz_met (by decide) (Nat.le_refl 2) ?_
  intro p e s m below meth c hx hb hml hr hlocks hown hin hts hfr hrel hsz lsA hl
  have hl : lv_has lsA 2 [(0, .ref (σ (1000 + i))), (1, .int k)] := hl
  obtain ⟨-, -, -, -, -, -, hE, hZ, -⟩ := id hfr
  have hS : va_S (fun q : Nat => B ≤ q) s.heap s.heap [] := va_S.rf
  obtain ⟨k0, k1, k2⟩ := zz_lt_of_in (n := (zzTx i).length) hk (by have := (zzTx_ok i hi).1; omega)
  obtain ⟨t1, t2, t3⟩ := (zzTx_ok i hi).2 _ k2
  refine lv_aload_n hx hb zzd_charAt_0 rfl (lv_at hl 0 rfl) ?_
  refine zz_call (r := some (.int 1)) (Z' := Z) (va_runV (As := []) (rest := []) ⟨hx, hb, hml, hown, hts⟩ (zzj_isLatin1 hi Z) (cwV 0 hts (zzJgc (pre := [.methodLink RJ0 492 yJ0_isLatin1_aae02, .instanceMethod yJ0_isLatin1_aae02, .selects RJ0 yJ0_isLatin1_aae02 yJ0_isLatin1_aae02, .initialized RJ0]) (by decide +kernel) (List.mem_of_getElem? (i := 21) rfl)) rfl rfl rfl (by decide +kernel) ⟨Nat.le_of_ble_eq_true rfl, Nat.le_of_ble_eq_true rfl⟩) ⟨zzPre_blind, vk_recv hE hi hS, fun U hU hW => zz_pre (as := [.ref (σ (1000 + i))]) hfr hrel hsz hS hU hW⟩ rfl rfl hl.1 rfl (lv_room (Nat.le_of_ble_eq_true rfl)) zzd_charAt_1 ⟨Nat.le_refl 0, Nat.le_refl 0⟩) hS (fun H1 locs1 hrel1 hS1 => ?_)
  refine lv_if_eq (tgt := 16) hx hb zzd_charAt_4 (by decide) (fun q => absurd q (by decide)) (fun _ => ?_)
  refine lv_aload_n hx hb zzd_charAt_7 rfl (lv_at hl 0 rfl) ?_
  refine vk_getf hx hb (hE.1 i hi).2.2.1 hS1 hown (hts _ (zzKi 2 rfl)) (fun x h => h) zzd_charAt_8 ?_
  refine lv_iload_n hx hb zzd_charAt_11 rfl (lv_at hl 1 rfl) ?_
  intro T hT X
  have hsz1 : H1.size = B + Z.1.length := by
    have h1 := X.heapSize
    rw [hT] at h1
    have h2 := hS1.1
    omega
  refine (?_ : W p l e (zzRj 4) s m [Value.ref (σ (1000 + i)), Value.int k].toArray below meth c H1 locs1 (0 + 0) (0 + 0) _ (F0 m 12 lsA [.int k, .ref (adV i)])) T hT X
  refine zz_call (r := some (.int (Int32.ofNat ((zzTx i).getD k.toNatClampNeg 0)))) (Z' := Z) (va_runS (As := [.ref (adV i), .int k]) (rest := []) ⟨hx, hb, hml, hown, hts⟩ (zzj_lch hi hk Z) ⟨callB_of 2 hts (zzJgc (pre := []) (by decide +kernel) (List.mem_of_getElem? (i := 24) rfl)) rfl rfl rfl (hts _ (zzKi 12 rfl)) (hts _ (zzKi 10 rfl)) (by decide +kernel) ⟨Nat.le_of_ble_eq_true rfl, Nat.le_of_ble_eq_true rfl⟩, hts _ (zzKi 11 rfl)⟩ ⟨zzPre_blind, fun U hU hW => zz_pre (as := [.ref (adV i), .int k]) hfr hrel1 hsz1 hS1 hU hW⟩ rfl rfl hl.1 rfl (lv_room (Nat.le_of_ble_eq_true rfl)) zzd_charAt_12 ⟨Nat.le_refl 0, Nat.le_refl 0⟩) hS1 (fun H2 locs2 hrel2 hS2 => ?_)
  exact W.zret hx hb hr t3 (fun t ht _ => ⟨rfl, by rw [ht]; exact hrel2, va_S.F hS2 ht⟩) (fun q h => hS2.2.2 q h) zzd_charAt_15 hlocks
end ZZJ
