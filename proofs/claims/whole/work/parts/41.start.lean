/-! the claim out of the law's loop -/
theorem zSH_n : ∀ a, a < 66 → zKd a < 8 → zzN (zKd a) ≤ zSz a := by decide +kernel
theorem zSH_at {a : Nat} {q : Nat × Nat} (h : zSH[a]? = some q) : a < 66 ∧ zKd a = q.1 ∧ zSz a = q.2 := by
  refine ⟨(List.getElem?_eq_some_iff.mp h).1, ?_, ?_⟩
  · unfold zKd; rw [List.getD_eq_getElem?_getD, h]; rfl
  · unfold zSz; rw [List.getD_eq_getElem?_getD, h]; rfl
def zzJ0 (L : Nat) (xs : Nat → Int32) : zzJ := (fun a k => if a = 2000 then Int64.ofNat L else zzZ4.2.2.1 a k, fun a k => if a = 2000 then xs k else zzZ4.2.2.2 a k)
theorem zzJ0_I {L : Nat} {xs : Nat → Int32} {a : Nat} (h : a ≠ 2000) : (zK (zzJ0 L xs)).2.2.2 a = zzZ4.2.2.2 a := by
  funext k
  exact if_neg h
theorem zzJ0_L {L : Nat} {xs : Nat → Int32} {a : Nat} (h : a ≠ 2000) : (zK (zzJ0 L xs)).2.2.1 a = zzZ4.2.2.1 a := by
  funext k
  exact if_neg h
theorem zzZ4_R {J : zzJ} : ∀ (a : Nat) (q : Nat × Nat), zzZ4.1[a]? = some q → (q.1 < 8 ∨ q.1 = 10) → ∀ k, k < q.2 → (zK J).2.1 a k = zzZ4.2.1 a k := by
  intro a q h hq k hk
  rw [zzZ4_sh] at h
  obtain ⟨h1, h2, h3⟩ := zSH_at h
  exact (zzZ4_mr a h1 (by rw [h2]; exact hq) k (by rw [h3]; exact hk)).symm
theorem zzZ4_N : ∀ (a : Nat) (q : Nat × Nat), zzZ4.1[a]? = some q → q.1 < 8 → zzN q.1 ≤ q.2 := by
  intro a q h hq
  rw [zzZ4_sh] at h
  obtain ⟨h1, h2, h3⟩ := zSH_at h
  have := zSH_n a h1 (by rw [h2]; exact hq)
  rw [h2, h3] at this
  exact this
theorem arrV_congr {cA : ClassId} {n : Nat} {f g : Nat → Value} (h : ∀ j, j < n → f j = g j) : arrV cA n f = arrV cA n g := by
  unfold arrV
  congr 1
  apply Array.ext
  · simp
  · intro i h1 h2
    simp only [Array.getElem_ofFn]
    exact h i (by simpa using h1)
theorem zz_switch {B : Nat} {σ : Nat → Nat} {dC : Nat → ClassId} {dI : Nat → Nat → Nat} {ca : Nat → ClassId} {sx sx' : Int64 × (Nat → Int32)} {Z Z' : zzH} {H : Heap} (h : zzRel B σ dC dI ca sx Z H) (h1 : Z'.1 = Z.1) (hI : ∀ a, a < Z.1.length → Z'.2.2.2 a = Z.2.2.2 a) (hL : ∀ a, a < Z.1.length → Z'.2.2.1 a = Z.2.2.1 a)
    (hR : ∀ (a : Nat) (q : Nat × Nat), Z.1[a]? = some q → (q.1 < 8 ∨ q.1 = 10) → ∀ k, k < q.2 → Z'.2.1 a k = Z.2.1 a k) (hN : ∀ (a : Nat) (q : Nat × Nat), Z.1[a]? = some q → q.1 < 8 → zzN q.1 ≤ q.2) (hs1 : ∀ j, Z'.2.2.2 2000 j = sx'.2 j) (hs2 : Z'.2.2.1 2000 0 = sx'.1) : zzRel B σ dC dI ca sx' Z' H := by
  obtain ⟨hZ, hP, -, -⟩ := h
  refine ⟨by rw [h1]; exact hZ, ?_, hs1, hs2⟩
  intro k q hk
  rw [zzWs_get, h1] at hk
  cases hz : Z.1[k]? with
  | none => rw [hz] at hk; cases hk
  | some w =>
    rw [hz] at hk
    cases hk
    have hlt : k < Z.1.length := (List.getElem?_eq_some_iff.mp hz).1
    have hold := hP k _ (zzWs_at hz)
    show va_at (dC, dI) vwCl (σ k, zzCell σ ca Z' k w) H
    by_cases h8 : w.1 < 8
    · rw [zzCell_o h8] at hold ⊢
      have e : zzFs σ Z' w.1 k = zzFs σ Z w.1 k := by
        unfold zzFs
        refine List.map_congr_left fun i hi => ?_
        have hi2 := List.mem_range.mp hi
        unfold zzFv
        rw [hI k hlt, hL k hlt, hR k w hz (Or.inl h8) i (Nat.lt_of_lt_of_le hi2 (hN k w hz h8))]
      rw [e]
      exact hold
    · by_cases h10 : w.1 = 10
      · rw [zzCell_10 h10] at hold ⊢
        refine Eq.trans hold ?_
        show some (arrV _ _ (fun j => va_rf (Option.map σ (Z.2.1 k j)))) = some (arrV _ _ (fun j => va_rf (Option.map σ (Z'.2.1 k j))))
        exact congrArg some (arrV_congr (fun j hj => by rw [hR k w hz (Or.inr h10) j hj]))
      · have e : zzCell σ ca Z' k w = zzCell σ ca Z k w := by
          unfold zzCell
          rw [if_neg h8, if_neg h8, if_neg h10, if_neg h10, hI k hlt]
        rw [e]
        exact hold
set_option maxHeartbeats 2000000 in
theorem zz_whole (l : Launch) {p : Program} {e : Env} {s : State} {m : MethodId} {below : List Frame} {meth : Method} {c : Code} {b L : Nat} {xs : Nat → Int32} (hL : L ≤ 3072) (C0 : lw_At p s m meth c b L xs)
    (hrun : ∃ Jf : zzJ, zzEv 2000 zzLaw 18 [.ref 2000, .ref 0, .ref 46, .int 0] [] (zK (zzJ0 L xs)) (some (.int 1), zK Jf)) : W p l e room_1 s m #[Value.ref b] below meth c s.heap [] 0 0 (lw_Z below #[Value.ref b] s) (entryFrame m ([Value.ref b] : List Value).toArray 4) := by
  obtain ⟨Jf, n, hrun⟩ := hrun
  obtain ⟨hx, hb, hr, hml, hown, hts, hX, hbl, hlocks, hgv⟩ := id C0
  have hs : ∀ q ∈ zzFl, q.before #[Value.ref b] s = true := flat_of_before _ hgv
  have hA0 : ∀ a : Nat, a < s.heap.size → ¬ (fun q : Nat => s.heap.size ≤ q) a := fun a h => Nat.not_le.mpr h
  obtain ⟨adK, adV, hE, hev⟩ := vk_Sof (args := #[Value.ref b]) (s := s) (N := 13) (tm := zzTm) (len := zzLe) (byt := zzBy) (A := fun q : Nat => s.heap.size ≤ q) zzSt7 (fun i hi => hs _ (zzSt1 i hi)) (fun i hi => hs _ (zzSt2 i hi)) (fun i hi => hs _ (zzSt3 i hi)) (fun i hi => hs _ (zzSt4 i hi)) (fun i hi j hj => hs _ (zzSt5 i hi j hj)) (fun i j hi hj hij => (zzSt6 i hi j hj hij).elim (fun h => Or.inl (hs _ h)) (fun h => Or.inr (hs _ h))) hA0
  obtain ⟨dq, hdq⟩ : ∃ dq : Nat → ClassId × (Nat → Nat), ∀ k, k < 8 → u_Kn s (zzR k) (zzTf k) (zzN k) (dq k).1 (dq k).2 := by
    have h : ∀ k : Nat, ∃ q : ClassId × (Nat → Nat), k < 8 → u_Kn s (zzR k) (zzTf k) (zzN k) q.1 q.2 := by
      intro k
      by_cases hk : k < 8
      · obtain ⟨cC, iS, h⟩ := u_known (C := zzR k) (T := zzTf k) (N := zzN k) (n := zzN k) hts (fun w hw => (zzUw k hk w hw).1) (hts _ (zzSt9 k hk))
        exact ⟨(cC, iS), fun _ => h⟩
      · exact ⟨(0, fun _ => 0), fun h => absurd h hk⟩
    exact ⟨fun k => Classical.choose (h k), fun k hk => Classical.choose_spec (h k) hk⟩
  have hZW : ∀ w ∈ ZW, w.before #[Value.ref b] s = true := fun w hw => hts w (List.mem_filter.mp hw).1
  obtain ⟨c0, a01, a02⟩ := zz_arr (ty := .int) rfl (hZW _ zzArI.1) (fun c => rfl)
  obtain ⟨c1, a11, a12⟩ := zz_arr (ty := .boolean) rfl (hZW _ zzArI.2) (fun c => rfl)
  obtain ⟨comp, c2, k2, b1, -, b2, b3, b4⟩ := Cond.arrayOver_spec (hts _ zzStA.1)
  have hK : va_K (fun k => (dq k).1, fun k => (dq k).2) vwCl (zzTys (fun k => if k = 0 then c0 else if k = 1 then c1 else c2)) s := by
    refine ⟨fun c q hq => ?_, fun k q hq => ?_⟩
    · have hc : c < 8 := (List.getElem?_eq_some_iff.mp hq).1
      have h1 := zzCl_ok c hc
      rw [hq] at h1
      cases h1
      exact hdq c hc
    · match k, hq with
      | 0, hq => cases hq; exact ⟨a01, a02⟩
      | 1, hq => cases hq; exact ⟨a11, a12⟩
      | 2, hq => cases hq; exact ⟨fun n z => ⟨fun k h => (by cases h), k2, b2, comp, b3⟩, k2, comp, b2, b3, b1, b4⟩
  generalize hσd : (fun a : Nat => if a < 1000 then s.heap.size + a else if a < 2000 then adK (a - 1000) else b) = σ
  have hσ : ∀ a, a < 1000 → σ a = s.heap.size + a := fun a h => by rw [← hσd]; exact if_pos h
  have hσs : ∀ i, i < 13 → σ (1000 + i) = adK i := fun i h => by
    rw [← hσd]
    dsimp only
    rw [if_neg (by omega), if_pos (by omega), Nat.add_sub_cancel_left]
  have hσb : σ 2000 = b := by rw [← hσd]; rfl
  have hLn : (Int64.ofNat L).toNatClampNeg = L := by
    rw [Int64.toNatClampNeg_ofNat_of_lt]
    omega
  have hfr : zzFr s.heap.size σ (fun k => (dq k).1) (fun k => (dq k).2) (fun k => if k = 0 then c0 else if k = 1 then c1 else c2) (Int64.ofNat L, xs) adV s s.heap := by
    refine ⟨hK, va_AO.of (hts _ zzStA.1), fun r hr => va_Nw.of rfl (hts _ (zzStN r hr)), Nat.le_refl _, ⟨?_, by rw [hσb]; exact hbl⟩, ?_, ?_, ?_, ?_⟩
    · rw [hσb]
      refine Or.inr ?_
      show va_X b (Int64.ofNat L).toNatClampNeg xs s s.heap
      rw [hLn]
      exact hX
    · intro o i k hk
      obtain ⟨g1, g2, g3⟩ := zzSt8 _ (zzGet_mem hk)
      dsimp only at g1 g2 g3
      refine vk_R.of (hts _ g3) ?_
      rw [hσs k g1, ← g2]
      exact hev k g1
    · refine ⟨fun i hi => ?_, fun i j hi hj h => ?_⟩
      · dsimp only
        rw [hσs i hi]
        exact hE.1 i hi
      · dsimp only at h
        rw [hσs i hi, hσs j hj] at h
        exact hE.2 i j hi hj h
    · exact va_Zof (hts _ zzStA.2.1) (hts _ zzStA.2.2.1) (va_eqt (hs _ zzStB.1)) hA0
    · exact va_Zqof (hts _ zzStA.2.2.2.1) (hts _ zzStA.2.2.2.2) (hs _ zzStB.2) hA0
  have hfr0 : zzFr s.heap.size σ (fun k => (dq k).1) (fun k => (dq k).2) (fun k => if k = 0 then c0 else if k = 1 then c1 else c2) ((-1 : Int64), fun _ => 0) adV s s.heap := ⟨hfr.1, hfr.2.1, hfr.2.2.1, hfr.2.2.2.1, ⟨Or.inl (by decide), hfr.2.2.2.2.1.2⟩, hfr.2.2.2.2.2⟩
  have hS : va_S (fun q : Nat => s.heap.size ≤ q) s.heap s.heap [] := va_S.rf
  have hrel : zzRel s.heap.size σ (fun k => (dq k).1) (fun k => (dq k).2) (fun k => if k = 0 then c0 else if k = 1 then c1 else c2) ((-1 : Int64), fun _ => 0) zzZ00 s.heap := by
    refine ⟨Nat.zero_le _, fun k q h => by simp [zzWs, zzZ00] at h, fun j => rfl, rfl⟩
  have hl := lv_entry ([.ref b]) (n := 4) (Nat.le_of_ble_eq_true rfl)
  rw [lg_entry_eq]
  generalize (lg_sl ([.ref b]) ++ List.replicate (4 - (lg_sl ([.ref b])).length) Slot.unset).toArray = lsA at hl ⊢
  have hl : lv_has lsA 4 [(0, .ref b)] := hl
  have hl2 : lv_has lsA (zzM zzLaw).2.2.1 (zzAs σ 0 [.ref 2000, zzU, zzU, zzU]) := by
    rw [zzM_law]
    have e1 : zzAs σ 0 [.ref 2000, zzU, zzU, zzU] = [(0, .ref (σ 2000))] := rfl
    rw [e1, hσb]
    exact hl
  refine zzTo_sound (l := l) (adV := adV) (sx := ((-1 : Int64), fun _ => 0)) (dC := fun k => (dq k).1) (dI := fun k => (dq k).2) (ca := fun k => if k = 0 then c0 else if k = 1 then c1 else c2) hσ 18 6000 2000 zzLaw 0 [.ref 2000, zzU, zzU, zzU] [] zzZ00 _ _ zzZ4 zzP_ok p e room_1 s m #[Value.ref b] below meth c s.heap [] 0 0 0 0 (lw_Z below #[Value.ref b] s) lsA hx (by rw [zzM_law]; exact hb) (by rw [zzM_law]; exact hml) (by rw [zzM_law]; exact hown) hZW hfr0 (fun h => absurd h (by rw [zzM_law]; decide)) ⟨Nat.le_of_ble_eq_true rfl, Nat.le_of_ble_eq_true rfl⟩ hrel hS rfl rfl rfl (by rw [zzZ4_sh]; exact Nat.le_of_ble_eq_true rfl) (by rw [zzZ4_sl']; exact Nat.le_of_ble_eq_true rfl) hl2 (by rw [zzM_law]; rfl) ?_
  intro lsA1 H1 locs1 cells1 slots1 hl1 hn1 hrel1 hS1 hc1 hs1
  have hrel2 := zz_switch (sx' := (Int64.ofNat L, xs)) (Z' := zK (zzJ0 L xs)) hrel1 zzZ4_sh.symm (fun a ha => by rw [zzZ4_sh] at ha; exact zzJ0_I (by have := zSH_len; omega)) (fun a ha => by rw [zzZ4_sh] at ha; exact zzJ0_L (by have := zSH_len; omega)) zzZ4_R zzZ4_N (fun j => rfl) rfl
  refine zzBd_all (l := l) (adV := adV) (sx := (Int64.ofNat L, xs)) (dC := fun k => (dq k).1) (dI := fun k => (dq k).2) (ca := fun k => if k = 0 then c0 else if k = 1 then c1 else c2) hσ n 2000 zzLaw 18 _ _ (zK (zzJ0 L xs)) (some (.int 1)) (zK Jf) hrun p e room_1 s m #[Value.ref b] below meth c H1 locs1 cells1 slots1 0 0 (lw_Z below #[Value.ref b] s) lsA1 hx (by rw [zzM_law]; exact hb) (by rw [zzM_law]; exact hml) (by rw [zzM_law]; exact hown) hZW hfr (fun h => absurd h (by rw [zzM_law]; decide)) ⟨Nat.le_of_ble_eq_true rfl, Nat.le_of_ble_eq_true rfl⟩ hrel2 hS1 rfl (by rw [hc1, zzZ4_sh]; rfl) (by rw [hs1, zzZ4_sl']; rfl) (Nat.le_of_ble_eq_true rfl) (Nat.le_of_ble_eq_true rfl) hl1 hn1 ?_
  intro pcf lsA' H' locs' cells' slots' il st' hd hret hrel' hS' hc' hs'
  rw [zzM_law] at hd hret
  have hst : il = (.ireturn, 1) ∧ st' = [.int 1] := by
    unfold zzRet at hret
    split at hret
    · next h => cases h
    · split at hret
      · cases hret; exact ⟨rfl, rfl⟩
      · cases hret
    · cases hret
    · cases hret
    · cases hret
    · cases hret
    · cases hret
  obtain ⟨rfl, rfl⟩ := hst
  refine va_forget (fun q hq => hS'.2.2 q hq) ?_
  have hcl : (zK Jf).1.length = 66 := rfl
  have hsl' : zzSl (zK Jf) = zzSl (zK (zzJ0 L xs)) := rfl
  have hsl2 : zzSl (zK (zzJ0 L xs)) ≤ 7302250 := Nat.le_of_ble_eq_true rfl
  refine W.widen (k := 600000) (n := 7302250) (by omega) (by omega) ?_
  exact lw_ret hx hb hr hlocks hd
