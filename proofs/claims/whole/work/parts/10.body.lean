/-! a method's body on the machine is its run -/
theorem zzCell_arr {σ : Nat → Nat} {ca : Nat → ClassId} {Z : zzH} {a : Nat} {q : Nat × Nat} (h : 8 ≤ q.1) : ∃ (cA : ClassId) (x : vp_A) (ty : FieldType) (t0 : Nat), zzCell σ ca Z a q = .inl (cA, x) ∧ (zzTys ca)[t0]? = some (cA, ty) ∧ x.1 = q.2 := by
  unfold zzCell
  rw [if_neg (by omega)]
  by_cases h10 : q.1 = 10
  · rw [if_pos h10]; exact ⟨_, _, _, 2, rfl, rfl, rfl⟩
  · rw [if_neg h10]
    by_cases h9 : q.1 = 9
    · rw [if_pos h9]; exact ⟨_, _, _, 1, rfl, rfl, rfl⟩
    · rw [if_neg h9]; exact ⟨_, _, _, 0, rfl, rfl, rfl⟩
theorem zz_neg {x : Int64} (h : x < 0) : x.toNatClampNeg = 0 := by
  have h1 : x.toInt < 0 := by simpa using Int64.lt_iff_toInt_lt.mp h
  show x.toInt.toNat = 0
  omega
section ZZB
variable {p : Program} {l : Launch} {e : Env} {R : Room} {s : State} {m : MethodId} {args : Array Value} {below : List Frame} {meth : Method} {c : Code} {H : Heap} {locs : List Loc} {cells slots : Nat} {Q : State → Prop}
variable {cc : ByteArray} {pc nL : Nat} {lsA : Array Slot} {σ : Nat → Nat} {ls : List Value} {own B : Nat} {dC : Nat → ClassId} {dI : Nat → Nat → Nat} {ca : Nat → ClassId} {sx : Int64 × (Nat → Int32)} {adV : Nat → Nat}
theorem zzCat_map' (σ : Nat → Nat) (st : List Value) (h : zzCat st ≤ 8) : ((st.map (zzV σ)).map fun v => v.category).sum ≤ 8 := by rw [zzCat_map]; exact h
theorem zzArI : Jvm.Cond.arrayClass .int ∈ ZW ∧ Jvm.Cond.arrayClass .boolean ∈ ZW := ⟨ZW_of (by decide +kernel) rfl, ZW_of (by decide +kernel) rfl⟩
set_option maxHeartbeats 2000000 in
theorem zzs_mem {il : Instr × Nat} {st : List Value} {Z : zzH} {r : zzS} {ini : Bool} {L0 S0 : Nat} (hx : p.tables.exec = Jvm.exec) (hb : c.code = cc) (hown : s.vm.findClass (zzR own) = some m.cls) (hts : ∀ w ∈ ZW, w.before args s = true)
    (hfr : zzFr B σ dC dI ca sx adV s s.heap) (hσ : ∀ a, a < 1000 → σ a = B + a) (hini : ini = true → meth.name = "<init>") (hrel : zzRel B σ dC dI ca sx Z H) (hS : va_S (fun q : Nat => B ≤ q) s.heap H locs) (h0 : s.heap.size = B + L0) (hc : cells + L0 = Z.1.length) (hsl : slots + S0 = zzSl Z)
    (hd : decode cc pc = .ok il) (h : zzMem own ini pc il ls st Z = some r) (hcap : r.2.2.2.1.length ≤ R.cells + L0) (hscap : zzSl r.2.2.2 ≤ R.slots + S0)
    (kk : ∀ (H' : Heap) (locs' : List Loc) (cells' slots' : Nat), r.2.1 = ls → zzRel B σ dC dI ca sx r.2.2.2 H' → va_S (fun q : Nat => B ≤ q) s.heap H' locs' → cells' + L0 = r.2.2.2.1.length → slots' + S0 = zzSl r.2.2.2 →
      W p l e R s m args below meth c H' locs' cells' slots' Q (F0 m r.1 lsA (r.2.2.1.map (zzV σ)))) : W p l e R s m args below meth c H locs cells slots Q (F0 m pc lsA (st.map (zzV σ))) := by
  obtain ⟨hK, hao, -, hB, ⟨hX, hXB⟩, -⟩ := hfr
  have hXl : σ 2000 < s.heap.size := Nat.lt_of_lt_of_le hXB hB
  have hXn : ¬ (fun q : Nat => B ≤ q) (σ 2000) := Nat.not_le.mpr hXB
  have hP := hrel.2.1
  have hD := zzWs_D (ca := ca) hσ hrel.1
  unfold zzMem at h
  split at h
  · split at h
    · split at h
      · next c0 k q hf hq =>
        split at h
        · next hc0 => cases h; exact zzm_get hx hb hd hown hts hK hP hf hq hc0 (by have := kk H locs cells slots rfl hrel hS hc hsl; exact this)
        · cases h
      · cases h
    · cases h
  · split at h
    · split at h
      · next c0 k q hf hq =>
        split at h
        · next hc0 =>
          obtain ⟨Z', hput, rfl⟩ := Option.map_eq_some_iff.mp h
          exact zzm_put hx hb hd hown hts hK hσ hrel hS hini hf hq hc0.1 hc0.2 hput (fun H' locs' e1 hr hS' => kk H' locs' cells slots rfl hr hS' (by rw [hc]; exact (congrArg List.length e1).symm) (by rw [hsl]; unfold zzSl; rw [e1]))
        · cases h
      · cases h
    · cases h
  · split at h
    · split at h
      · next ha =>
        subst ha
        split at h
        · next hin =>
          cases h
          rw [hrel.2.2.2] at hin
          have hX : va_X (σ 2000) sx.1.toNatClampNeg sx.2 s s.heap := hX.elim (fun h0 => absurd (Or.inr (by rw [zz_neg h0]; exact Nat.zero_le _)) hin) id
          refine va_sld hx hb hX hXl hXn hS hin hd ?_
          rw [← hrel.2.2.1]
          exact kk H locs cells slots rfl hrel hS hc hsl
        · cases h
      · split at h
        · next q hq =>
          split at h
          · next hc0 => cases h; exact va_iald hx hb hK hP _ 0 (by rw [zzWs_at hq, zzCell_8 hc0.1]) rfl hc0.2 hd (kk H locs cells slots rfl hrel hS hc hsl)
          · cases h
        · cases h
    · cases h
  · split at h
    · split at h
      · next q hq =>
        split at h
        · next hc0 =>
          cases h
          exact va_iast hx hb hK hP hD hS _ 0 (by rw [zzWs_at hq, zzCell_8 hc0.1]) rfl hc0.2 hd (fun H1 locs1 hP1 _ hS1 => by
            refine kk H1 locs1 cells slots rfl ?_ hS1 hc hsl
            refine zzm_row hrel hq ?_ ?_ ?_ hP1
            · rfl
            · rw [zzCell_8 hc0.1]; dsimp only; rw [zzUp_upd]
            · exact fun x hxa => ⟨rfl, rfl, zzUp_ne hxa⟩)
        · cases h
      · cases h
    · cases h
  · split at h
    · split at h
      · next q hq =>
        split at h
        · next hc0 => cases h; exact va_zald hx hb hK hP _ 1 (by rw [zzWs_at hq, zzCell_9 hc0.1]) rfl hc0.2 hd (kk H locs cells slots rfl hrel hS hc hsl)
        · cases h
      · cases h
    · cases h
  · split at h
    · split at h
      · next q hq =>
        split at h
        · next hc0 =>
          cases h
          exact va_zast hx hb hK hP hD hS _ 1 (by rw [zzWs_at hq, zzCell_9 hc0.1]) rfl hc0.2.1 hd (fun H1 locs1 hP1 _ hS1 => by
            refine kk H1 locs1 cells slots rfl ?_ hS1 hc hsl
            refine zzm_row hrel hq ?_ ?_ ?_ hP1
            · rfl
            · rw [zzCell_9 hc0.1]; dsimp only; rw [zzUp_upd, zz_nar01 hc0.2.2]
            · exact fun x hxa => ⟨rfl, rfl, zzUp_ne hxa⟩)
        · cases h
      · cases h
    · cases h
  · split at h
    · split at h
      · next q hq =>
        split at h
        · next hc0 =>
          cases h
          refine va_aldq hx hb hK hP _ 2 (by rw [zzWs_at hq, zzCell_10 hc0.1]) rfl hc0.2 hd ?_
          rw [← zzV_rf]
          exact kk H locs cells slots rfl hrel hS hc hsl
        · cases h
      · cases h
    · cases h
  · split at h
    · split at h
      · next q w hq hw =>
        split at h
        · next hc0 =>
          cases h
          have hw4 : w.1 < 8 := by omega
          exact va_astq hx hb hK hP hD hS _ 2 _ 4 (r := (zzR 4, zzTf 4, zzN 4)) (by rw [zzWs_at hq, zzCell_10 hc0.1]) rfl (by rw [zzWs_at hw, zzCell_o hw4, hc0.2.1]) (zzCl_ok 4 (by omega)) hc0.2.2 hd (fun H1 locs1 hP1 _ hS1 => by
            refine kk H1 locs1 cells slots rfl ?_ hS1 hc hsl
            refine zzm_row hrel hq ?_ ?_ ?_ hP1
            · rfl
            · rw [zzCell_10 hc0.1]
              dsimp only
              congr 7
              funext j
              rw [zzUp_eq]
              unfold va_up
              split <;> rfl
            · exact fun x hxa => ⟨zzUp_ne hxa, rfl, rfl⟩)
        · cases h
      · cases h
    · cases h
  · split at h
    · split at h
      · next ha =>
        subst ha
        split at h
        · cases h
        next hneg =>
        cases h
        rw [hrel.2.2.2] at hneg
        have hX : va_X (σ 2000) sx.1.toNatClampNeg sx.2 s s.heap := hX.elim (fun h0 => absurd h0 hneg) id
        refine va_slen hx hb hX hXl hXn hS hd ?_
        rw [← hrel.2.2.2]
        exact kk H locs cells slots rfl hrel hS hc hsl
      · split at h
        · next q hq =>
          split at h
          · next hc0 =>
            cases h
            obtain ⟨cA, x, ty, t0, g1, g2, g3⟩ := zzCell_arr (σ := σ) (ca := ca) (Z := Z) hc0
            exact va_alen hx hb hK hP _ t0 (by rw [zzWs_at hq, g1]) g2 (by rw [g3]) hd (kk H locs cells slots rfl hrel hS hc hsl)
          · cases h
        · cases h
    · cases h
  · split at h
    · next c0 hcl =>
      split at h
      · next hlt =>
        cases h
        exact zzm_new hx hb hd hown hts hK hσ hrel hS h0 hc hsl hcl hlt hcap hscap (fun H' hr hS' => kk H' locs _ _ rfl hr hS' (by simp [zzNew]; omega) (by rw [zzSl_new]; omega))
      · cases h
    · cases h
  · split at h
    · split at h
      · next hlt =>
        cases h
        exact zzm_newa hx hb hd hK (Or.inl ⟨rfl, rfl⟩) (hts _ zzArI.1) hσ hrel hS h0 hc hsl hlt.1 hlt.2.1 hlt.2.2 hcap hscap (fun H' hr hS' => kk H' locs _ _ rfl hr hS' (by simp [zzNew]; omega) (by rw [zzSl_new]; omega))
      · cases h
    · cases h
  · split at h
    · split at h
      · next hlt =>
        cases h
        exact zzm_newa hx hb hd hK (Or.inr ⟨rfl, rfl⟩) (hts _ zzArI.2) hσ hrel hS h0 hc hsl hlt.1 hlt.2.1 hlt.2.2 hcap hscap (fun H' hr hS' => kk H' locs _ _ rfl hr hS' (by simp [zzNew]; omega) (by rw [zzSl_new]; omega))
      · cases h
    · cases h
  · split at h
    · split at h
      · next hlt =>
        cases h
        exact zzm_newq hx hb hd hown hts hK hao hσ hrel hS h0 hc hsl hlt.2.2.2 hlt.1 hlt.2.1 hlt.2.2.1 hcap hscap (fun H' hr hS' => kk H' locs _ _ rfl hr hS' (by simp [zzNew]; omega) (by rw [zzSl_new]; omega))
      · cases h
    · cases h
  · cases h
end ZZB
