/-! fields, arrays, making, on the machine -/
def zzRel (B : Nat) (σ : Nat → Nat) (dC : Nat → ClassId) (dI : Nat → Nat → Nat) (ca : Nat → ClassId) (sx : Int64 × (Nat → Int32)) (Z : zzH) (H : Heap) : Prop :=
  Z.1.length ≤ 1000 ∧ va_P (dC, dI) vwCl (zzWs σ ca Z) H ∧ (∀ j, Z.2.2.2 2000 j = sx.2 j) ∧ Z.2.2.1 2000 0 = sx.1
theorem zzFs_len (σ : Nat → Nat) (Z : zzH) (c a : Nat) : (zzFs σ Z c a).length = zzN c := by simp [zzFs]
theorem zzFs_get {σ : Nat → Nat} {Z : zzH} {c a k : Nat} (hk : k < zzN c) : (zzFs σ Z c a)[k]? = some (zzV σ (zzFv Z c a k)) := by
  unfold zzFs
  rw [List.getElem?_map, List.getElem?_range hk]
  rfl
theorem zzFs_set {σ : Nat → Nat} {Z Z' : zzH} {c a k : Nat} {v : Value} (hk : k < zzN c) (h1 : zzFv Z' c a k = v) (h2 : ∀ j, j ≠ k → zzFv Z' c a j = zzFv Z c a j) : (zzFs σ Z c a).set k (zzV σ v) = zzFs σ Z' c a := by
  apply List.ext_getElem?
  intro i
  rw [List.getElem?_set, zzFs_len]
  by_cases hi : i < zzN c
  · by_cases e : k = i
    · subst e
      rw [if_pos rfl, if_pos hk, zzFs_get hk, h1]
    · rw [if_neg e, zzFs_get hi, zzFs_get hi, h2 i (Ne.symm e)]
  · have e1 : (zzFs σ Z c a)[i]? = none := List.getElem?_eq_none (by rw [zzFs_len]; omega)
    have e2 : (zzFs σ Z' c a)[i]? = none := List.getElem?_eq_none (by rw [zzFs_len]; omega)
    rw [e1, e2, if_neg (by omega)]
theorem zzCell_o {σ : Nat → Nat} {ca : Nat → ClassId} {Z : zzH} {a : Nat} {q : Nat × Nat} (h : q.1 < 8) : zzCell σ ca Z a q = .inr (q.1, zzFs σ Z q.1 a) := by
  unfold zzCell; rw [if_pos h]
theorem zzCell_8 {σ : Nat → Nat} {ca : Nat → ClassId} {Z : zzH} {a : Nat} {q : Nat × Nat} (h : q.1 = 8) : zzCell σ ca Z a q = .inl (ca 0, q.2, .inl (Z.2.2.2 a)) := by
  unfold zzCell; rw [h, if_neg (by omega), if_neg (by omega), if_neg (by omega)]
theorem zzCell_9 {σ : Nat → Nat} {ca : Nat → ClassId} {Z : zzH} {a : Nat} {q : Nat × Nat} (h : q.1 = 9) : zzCell σ ca Z a q = .inl (ca 1, q.2, .inl (Z.2.2.2 a)) := by
  unfold zzCell; rw [h, if_neg (by omega), if_neg (by omega), if_pos rfl]
theorem zzCell_10 {σ : Nat → Nat} {ca : Nat → ClassId} {Z : zzH} {a : Nat} {q : Nat × Nat} (h : q.1 = 10) : zzCell σ ca Z a q = .inl (ca 2, q.2, .inr (.inr (.inr (.inr (fun j => (Z.2.1 a j).map σ))))) := by
  unfold zzCell; rw [h, if_neg (by omega), if_pos rfl]
theorem zzCell_ne {σ : Nat → Nat} {ca : Nat → ClassId} {Z Z' : zzH} {x : Nat} (h1 : Z'.2.1 x = Z.2.1 x) (h2 : Z'.2.2.1 x = Z.2.2.1 x) (h3 : Z'.2.2.2 x = Z.2.2.2 x) (w : Nat × Nat) : zzCell σ ca Z' x w = zzCell σ ca Z x w := by
  have e : zzFs σ Z' w.1 x = zzFs σ Z w.1 x := by
    unfold zzFs
    exact List.map_congr_left fun k _ => by unfold zzFv; rw [h1, h2, h3]
  unfold zzCell
  rw [e, h1, h3]
theorem zzPut_spec {σ : Nat → Nat} {Z Z' : zzH} {c a k : Nat} {v : Value} (h : zzPut Z c a k v = some Z') (hc : c < 8) (hk : k < zzN c) :
    Z'.1 = Z.1 ∧ narrow (zzTy c k) (zzV σ v) = zzV σ v ∧ fits (zzTy c k) (zzV σ v) = true ∧ zzFv Z' c a k = v ∧ (∀ j, j ≠ k → zzFv Z' c a j = zzFv Z c a j) ∧ ∀ x, x ≠ a → Z'.2.1 x = Z.2.1 x ∧ Z'.2.2.1 x = Z.2.2.1 x ∧ Z'.2.2.2 x = Z.2.2.2 x := by
  obtain ⟨-, t0, t1, t2, t3, -⟩ := zzTy_ok c hc k hk
  unfold zzPut at h
  split at h
  · next _ _ x ht =>
    cases h
    refine ⟨rfl, by rw [t0 ht]; rfl, by rw [t0 ht]; rfl, ?_, fun j hj => ?_, fun x hx => ⟨rfl, rfl, zzUp_ne hx⟩⟩
    · unfold zzFv; rw [ht]; simp [zzUp_eq]
    · unfold zzFv; simp [zzUp_eq, hj]
  · next _ _ x ht =>
    split at h
    · next hx01 =>
      cases h
      refine ⟨rfl, ?_, ?_, ?_, fun j hj => ?_, fun x hx => ⟨rfl, rfl, zzUp_ne hx⟩⟩
      · rw [t1 ht]; rcases hx01 with rfl | rfl <;> rfl
      · rw [t1 ht]; rcases hx01 with rfl | rfl <;> rfl
      · unfold zzFv; rw [ht]; simp [zzUp_eq]
      · unfold zzFv; simp [zzUp_eq, hj]
    · cases h
  · next _ _ x ht =>
    cases h
    refine ⟨rfl, by rw [t2 ht]; rfl, by rw [t2 ht]; rfl, ?_, fun j hj => ?_, fun x hx => ⟨rfl, zzUp_ne hx, rfl⟩⟩
    · unfold zzFv; rw [ht]; simp [zzUp_eq]
    · unfold zzFv; simp [zzUp_eq, hj]
  · next _ _ x ht =>
    split at h
    · cases h
      refine ⟨rfl, zz_narR _ _ (t3 ht).1, (zz_fits _ _ 0).trans (t3 ht).1, ?_, fun j hj => ?_, fun x hx => ⟨zzUp_ne hx, rfl, rfl⟩⟩
      · unfold zzFv; rw [ht]; simp [zzUp_eq, va_rf]
      · unfold zzFv; simp [zzUp_eq, hj]
    · cases h
  · next _ _ ht =>
    cases h
    refine ⟨rfl, (t3 ht).2.2, (t3 ht).2.1, ?_, fun j hj => ?_, fun x hx => ⟨zzUp_ne hx, rfl, rfl⟩⟩
    · unfold zzFv; rw [ht]; simp [zzUp_eq, va_rf]
    · unfold zzFv; simp [zzUp_eq, hj]
  · cases h
theorem zz_lt {Z : zzH} {a : Nat} {q : Nat × Nat} (h : Z.1[a]? = some q) (hZ : Z.1.length ≤ 1000) : a < 1000 := Nat.lt_of_lt_of_le (List.getElem?_eq_some_iff.mp h).1 hZ
theorem zzNew_n3 {Z : zzH} {c n x : Nat} (h : x ≠ Z.1.length) : (zzNew Z c n).2.2.2 x = Z.2.2.2 x := zzRo_ne h
theorem zzNew_n2 {Z : zzH} {c n x : Nat} (h : x ≠ Z.1.length) : (zzNew Z c n).2.2.1 x = Z.2.2.1 x := zzRo_ne h
theorem zzNew_e3 {Z : zzH} {c n : Nat} : (zzNew Z c n).2.2.2 Z.1.length = fun _ => 0 := zzRo_eq
theorem zzNew_e1 {Z : zzH} {c n : Nat} : (zzNew Z c n).2.1 Z.1.length = fun _ => none := zzRo_eq
section ZZM
variable {p : Program} {l : Launch} {e : Env} {R : Room} {s : State} {m : MethodId} {args : Array Value} {below : List Frame} {meth : Method} {c : Code} {H : Heap} {locs : List Loc} {cells slots : Nat} {Q : State → Prop}
variable {cc : ByteArray} {pc nL : Nat} {lsA : Array Slot} {σ : Nat → Nat} {ls : List Value} {own B : Nat} {dC : Nat → ClassId} {dI : Nat → Nat → Nat} {ca : Nat → ClassId} {sx : Int64 × (Nat → Int32)}
/-- the heap's size, where the cells that were made are counted -/
theorem zz_size {T : State} {Z : zzH} {L0 : Nat} (X : Stand p l e R s m args below meth c T locs cells slots) (hT : T.heap = H) (hσ : ∀ a, a < 1000 → σ a = B + a) (hrel : zzRel B σ dC dI ca sx Z H) (hS : va_S (fun q : Nat => B ≤ q) s.heap H locs) (h0 : s.heap.size = B + L0) (hc : cells + L0 = Z.1.length) : H.size = B + Z.1.length := by
  have h1 := X.heapSize
  rw [hT] at h1
  have h2 := hS.1
  obtain ⟨hZ, hP, -⟩ := hrel
  rcases Nat.eq_zero_or_pos Z.1.length with hz | hz
  · omega
  · have hq : Z.1[Z.1.length - 1]? = some (Z.1[Z.1.length - 1]'(by omega)) := List.getElem?_eq_getElem (by omega)
    have h3 := (hP _ _ (zzWs_at hq)).lt
    dsimp only at h3
    rw [hσ _ (by omega)] at h3
    omega
theorem zzm_get {i a c0 k : Nat} {q : Nat × Nat} {Z : zzH} {rest : List Value} (hx : p.tables.exec = Jvm.exec) (hb : c.code = cc) (hd : decode cc pc = .ok (.getfield i, 3)) (hown : s.vm.findClass (zzR own) = some m.cls) (hts : ∀ w ∈ ZW, w.before args s = true) (hK : va_K (dC, dI) vwCl (zzTys ca) s) (hP : va_P (dC, dI) vwCl (zzWs σ ca Z) H)
    (hf : zzGet zzFL own i = some (c0, k)) (hq : Z.1[a]? = some q) (hqc : q.1 = c0)
    (kk : W p l e R s m args below meth c H locs cells slots Q (F0 m (pc + 3) lsA (zzV σ (zzFv Z c0 a k) :: rest))) : W p l e R s m args below meth c H locs cells slots Q (F0 m pc lsA (.ref (σ a) :: rest)) := by
  have hm := zzGet_mem hf
  obtain ⟨h1, h2⟩ := zzFLr _ hm
  have hw := zzFLw _ hm
  dsimp only at h1 h2 hw
  subst hqc
  have ht := zzTy_ok _ h1 _ h2
  exact va_get hx hb hts (zzUW h1) hown hK hP a (by rw [zzWs_at hq, zzCell_o h1]) (zzCl_ok _ h1) k h2 (hts _ (ZW_of hw.1 hw.2)) (fun x h => by rw [← ht.2.2.2.2.2.2.1]; exact h) (zzFs_get h2) hd kk
theorem zzm_put {i a c0 k : Nat} {q : Nat × Nat} {Z Z' : zzH} {v : Value} {ini : Bool} {rest : List Value} (hx : p.tables.exec = Jvm.exec) (hb : c.code = cc) (hd : decode cc pc = .ok (.putfield i, 3)) (hown : s.vm.findClass (zzR own) = some m.cls) (hts : ∀ w ∈ ZW, w.before args s = true) (hK : va_K (dC, dI) vwCl (zzTys ca) s)
    (hσ : ∀ a, a < 1000 → σ a = B + a) (hrel : zzRel B σ dC dI ca sx Z H) (hS : va_S (fun q : Nat => B ≤ q) s.heap H locs) (hini : ini = true → meth.name = "<init>")
    (hf : zzGet zzFL own i = some (c0, k)) (hq : Z.1[a]? = some q) (hqc : q.1 = c0) (hfin : zzFin c0 k = false ∨ (ini = true ∧ own = c0)) (hput : zzPut Z c0 a k v = some Z')
    (kk : ∀ (H' : Heap) (locs' : List Loc), Z'.1 = Z.1 → zzRel B σ dC dI ca sx Z' H' → va_S (fun q : Nat => B ≤ q) s.heap H' locs' → W p l e R s m args below meth c H' locs' cells slots Q (F0 m (pc + 3) lsA rest)) : W p l e R s m args below meth c H locs cells slots Q (F0 m pc lsA (zzV σ v :: .ref (σ a) :: rest)) := by
  have hm := zzGet_mem hf
  obtain ⟨h1, h2⟩ := zzFLr _ hm
  have hw := zzFLw _ hm
  dsimp only at h1 h2 hw
  subst hqc
  have ht := zzTy_ok _ h1 _ h2
  obtain ⟨hZ, hP, hs1, hs2⟩ := hrel
  obtain ⟨p1, p2, p3, p4, p5, p6⟩ := zzPut_spec (σ := σ) (a := a) hput h1 h2
  have ha := zz_lt hq hZ
  have hne : (2000 : Nat) ≠ a := by omega
  have hset := zzWs_set (σ := σ) (ca := ca) (Z := Z) (Z' := Z') p1 hq (e := .inr (q.1, (zzFs σ Z q.1 a).set k (zzV σ v))) (by rw [zzCell_o h1, zzFs_set h2 p4 p5]) (fun x w hxa => zzCell_ne (p6 x hxa).1 (p6 x hxa).2.1 (p6 x hxa).2.2 w)
  have hfinish : ∀ (H1 : Heap) (locs1 : List Loc), va_P (dC, dI) vwCl ((zzWs σ ca Z).set a (σ a, .inr (q.1, (zzFs σ Z q.1 a).set k (zzV σ v)))) H1 → va_D (fun q : Nat => B ≤ q) ((zzWs σ ca Z).set a (σ a, .inr (q.1, (zzFs σ Z q.1 a).set k (zzV σ v)))) → va_S (fun q : Nat => B ≤ q) s.heap H1 locs1 → W p l e R s m args below meth c H1 locs1 cells slots Q (F0 m (pc + 3) lsA rest) := by
    intro H1 locs1 hP1 _ hS1
    rw [hset] at hP1
    exact kk H1 locs1 p1 ⟨by rw [p1]; exact hZ, hP1, fun j => by rw [(p6 _ hne).2.2]; exact hs1 j, by rw [(p6 _ hne).2.1]; exact hs2⟩ hS1
  have he : (zzWs σ ca Z)[a]? = some (σ a, .inr (q.1, zzFs σ Z q.1 a)) := by rw [zzWs_at hq, zzCell_o h1]
  have hsame : ∀ x, s.fieldFound? (zzTf q.1 k).1 (zzTf q.1 k).2.1 (zzTf q.1 k).2.2.1 = some x → s.fieldFound? (zzR q.1) (zzTf q.1 k).2.1 (zzTf q.1 k).2.2.1 = some x := fun x h => by rw [← ht.2.2.2.2.2.2.1]; exact h
  cases hfn : zzFin q.1 k with
  | false =>
    exact va_put hx hb hts (zzUW h1) (zzTy q.1) (fun k hk => (zzTy_ok _ h1 _ hk).1) (zzNm_ok _ h1) hown hK hP (zzWs_D hσ hZ) hS a he (zzCl_ok _ h1) k h2 (hts _ (ZW_of hw.1 hw.2)) hsame (ht.2.2.2.2.2.1.trans hfn) ht.1 p2 p3 (by rw [zzFs_len]; exact h2) hd hfinish
  | true =>
    rcases hfin with h | ⟨g1, g2⟩
    · rw [hfn] at h; cases h
    · exact va_putF hx hb hts (zzUW h1) (zzTy q.1) (fun k hk => (zzTy_ok _ h1 _ hk).1) (zzNm_ok _ h1) hown hK hP (zzWs_D hσ hZ) hS a he (zzCl_ok _ h1) k h2 (hts _ (ZW_of hw.1 hw.2)) hsame (ht.2.2.2.2.2.1.trans hfn) (hini g1) (by rw [ht.2.2.2.2.2.2.1, g2]) ht.1 p2 p3 (by rw [zzFs_len]; exact h2) hd hfinish
/-- a row's contents change -/
theorem zzm_row {a : Nat} {q : Nat × Nat} {Z Z' : zzH} {e1 : va_E} (hrel : zzRel B σ dC dI ca sx Z H) (hq : Z.1[a]? = some q) (h1 : Z'.1 = Z.1) (he : zzCell σ ca Z' a q = e1) (ho : ∀ x, x ≠ a → Z'.2.1 x = Z.2.1 x ∧ Z'.2.2.1 x = Z.2.2.1 x ∧ Z'.2.2.2 x = Z.2.2.2 x) {H1 : Heap} (hP1 : va_P (dC, dI) vwCl ((zzWs σ ca Z).set a (σ a, e1)) H1) : zzRel B σ dC dI ca sx Z' H1 := by
  obtain ⟨hZ, hP, hs1, hs2⟩ := hrel
  have hset := zzWs_set (σ := σ) (ca := ca) (Z := Z) (Z' := Z') h1 hq he (fun x w hxa => zzCell_ne (ho x hxa).1 (ho x hxa).2.1 (ho x hxa).2.2 w)
  rw [hset] at hP1
  have ha := zz_lt hq hZ
  have hne : (2000 : Nat) ≠ a := by omega
  exact ⟨by rw [h1]; exact hZ, hP1, fun j => by rw [(ho _ hne).2.2]; exact hs1 j, by rw [(ho _ hne).2.1]; exact hs2⟩
theorem zzUp_upd {f : Nat → Nat → Int32} {a k : Nat} {v : Int32} : zzUp f a k v a = upd (f a) k v := by
  funext j
  rw [zzUp_eq]; rfl
theorem zz_nar01 {x : Int32} (h : x = 0 ∨ x = 1) : vp_nar .boolean x = x := by
  rcases h with rfl | rfl <;> decide
theorem zzm_new {i c0 L0 S0 : Nat} {Z : zzH} {rest : List Value} (hx : p.tables.exec = Jvm.exec) (hb : c.code = cc) (hd : decode cc pc = .ok (.new i, 3)) (hown : s.vm.findClass (zzR own) = some m.cls) (hts : ∀ w ∈ ZW, w.before args s = true) (hK : va_K (dC, dI) vwCl (zzTys ca) s)
    (hσ : ∀ a, a < 1000 → σ a = B + a) (hrel : zzRel B σ dC dI ca sx Z H) (hS : va_S (fun q : Nat => B ≤ q) s.heap H locs) (h0 : s.heap.size = B + L0) (hc : cells + L0 = Z.1.length) (hsl : slots + S0 = zzSl Z) (hcl : zzGet zzCL own i = some c0) (hlt : Z.1.length < 1000)
    (hcap : (zzNew Z c0 (zzN c0)).1.length ≤ R.cells + L0) (hscap : zzSl (zzNew Z c0 (zzN c0)) ≤ R.slots + S0)
    (kk : ∀ H' : Heap, zzRel B σ dC dI ca sx (zzNew Z c0 (zzN c0)) H' → va_S (fun q : Nat => B ≤ q) s.heap H' locs → W p l e R s m args below meth c H' locs (cells + 1) (slots + zzN c0) Q (F0 m (pc + 3) lsA (.ref (σ Z.1.length) :: rest))) : W p l e R s m args below meth c H locs cells slots Q (F0 m pc lsA rest) := by
  intro T hT X
  have hsz := zz_size X hT hσ hrel hS h0 hc
  refine (?_ : W p l e R s m args below meth c H locs cells slots Q (F0 m pc lsA rest)) T hT X
  have hm := zzGet_mem hcl
  have hw := zzCLw _ hm
  obtain ⟨g1, g2, g3⟩ := zzCLi _ hm
  dsimp only at hw g1 g2 g3
  have hKn := hK.1 _ _ (zzCl_ok _ g1)
  obtain ⟨hZ, hP, hs1, hs2⟩ := hrel
  have e1 : (zzNew Z c0 (zzN c0)).1.length = Z.1.length + 1 := by simp [zzNew]
  rw [zzSl_new] at hscap
  rw [e1] at hcap
  refine W.newcK hx hb hown (hts _ (ZW_of hw.1 hw.2)) (hts _ (ZW_of g2.1 g2.2)) (hts _ (ZW_of g3.1 g3.2)) rfl hd (by omega) (by omega) hKn.2.1 rfl fun H1 kC hkC e1 z1 o1 => ?_
  have hk : ∀ (k : Nat) (x : Nat × va_E), (zzWs σ ca Z)[k]? = some x → H1[x.1]? = H[x.1]? := fun k x hx => o1 x.1 ((hP k x hx).lt)
  have hH : H.size = σ Z.1.length := by rw [hsz, hσ _ hlt]
  rw [hH] at e1 ⊢
  refine kk H1 ⟨by simp [zzNew]; omega, ?_, fun j => ?_, ?_⟩ ⟨Nat.le_trans hS.1 (by omega), fun x h1 h2 => (o1 x (Nat.lt_of_lt_of_le h1 hS.1)).trans (hS.2.1 x h1 h2), hS.2.2⟩
  · rw [← zzWs_push]
    refine (hP.kept hk).app (fun k x hx => ?_)
    have hz : k < 1 := (List.getElem?_eq_some_iff.mp hx).1
    rw [show k = 0 by omega] at hx
    cases hx
    rw [zzCell_o (q := (c0, zzN c0)) g1]
    refine ⟨_, zzCl_ok _ g1, (u_born (zzTy c0) hts (zzUW g1) hKn hkC e1 (fun k hk => (zzTy_ok _ g1 _ hk).1)).to (fun j hj => ?_)⟩
    dsimp only
    rw [(zzTy_ok _ g1 _ hj).2.2.2.2.2.2.2]
    unfold vp_V
    rw [List.getD_eq_getElem?_getD, zzFs_get hj]
    unfold zzFv zzNew
    dsimp only
    rw [zzRo_eq, zzRo_eq, zzRo_eq]
    generalize zzT c0 j = t
    rcases t with _ | _ | _ | _ | t <;> rfl
  · rw [zzNew_n3 (by omega)]; exact hs1 j
  · rw [zzNew_n2 (by omega)]; exact hs2
/-- a new row, of a kind of array -/
theorem zzm_row1 {c0 n : Nat} {Z : zzH} {H1 : Heap} (hσ : ∀ a, a < 1000 → σ a = B + a) (hrel : zzRel B σ dC dI ca sx Z H) (hsz : H.size = B + Z.1.length) (hlt : Z.1.length < 1000) (z1 : H1.size = H.size + 1) (o1 : ∀ q, q < H.size → H1[q]? = H[q]?)
    (hat : va_at (dC, dI) vwCl (σ Z.1.length, zzCell σ ca (zzNew Z c0 n) Z.1.length (c0, n)) H1) : zzRel B σ dC dI ca sx (zzNew Z c0 n) H1 := by
  obtain ⟨hZ, hP, hs1, hs2⟩ := hrel
  have hk : ∀ (k : Nat) (x : Nat × va_E), (zzWs σ ca Z)[k]? = some x → H1[x.1]? = H[x.1]? := fun k x hx => o1 x.1 ((hP k x hx).lt)
  refine ⟨by simp [zzNew]; omega, ?_, fun j => ?_, ?_⟩
  · rw [← zzWs_push]
    refine (hP.kept hk).app (fun k x hx => ?_)
    have hz : k < 1 := (List.getElem?_eq_some_iff.mp hx).1
    rw [show k = 0 by omega] at hx
    cases hx
    exact hat
  · rw [zzNew_n3 (by omega)]; exact hs1 j
  · rw [zzNew_n2 (by omega)]; exact hs2
theorem zzm_newa {c0 L0 S0 : Nat} {at0 : ArrayType} {n : Int32} {Z : zzH} {rest : List Value} (hx : p.tables.exec = Jvm.exec) (hb : c.code = cc) (hd : decode cc pc = .ok (.newarray at0, 2)) (hK : va_K (dC, dI) vwCl (zzTys ca) s)
    (hkind : (at0 = .int ∧ c0 = 8) ∨ (at0 = .boolean ∧ c0 = 9)) (harr : (Jvm.Cond.arrayClass (newarray.typeOf at0)).before args s = true)
    (hσ : ∀ a, a < 1000 → σ a = B + a) (hrel : zzRel B σ dC dI ca sx Z H) (hS : va_S (fun q : Nat => B ≤ q) s.heap H locs) (h0 : s.heap.size = B + L0) (hc : cells + L0 = Z.1.length) (hsl : slots + S0 = zzSl Z) (hlt : Z.1.length < 1000) (hn : ¬ n < 0) (hn2 : n.toNatClampNeg ≤ 100000)
    (hcap : (zzNew Z c0 n.toNatClampNeg).1.length ≤ R.cells + L0) (hscap : zzSl (zzNew Z c0 n.toNatClampNeg) ≤ R.slots + S0)
    (kk : ∀ H' : Heap, zzRel B σ dC dI ca sx (zzNew Z c0 n.toNatClampNeg) H' → va_S (fun q : Nat => B ≤ q) s.heap H' locs → W p l e R s m args below meth c H' locs (cells + 1) (slots + n.toNatClampNeg) Q (F0 m (pc + 2) lsA (.ref (σ Z.1.length) :: rest))) : W p l e R s m args below meth c H locs cells slots Q (F0 m pc lsA (.int n :: rest)) := by
  intro T hT X
  have hsz := zz_size X hT hσ hrel hS h0 hc
  refine (?_ : W p l e R s m args below meth c H locs cells slots Q (F0 m pc lsA (.int n :: rest))) T hT X
  have e1 : (zzNew Z c0 n.toNatClampNeg).1.length = Z.1.length + 1 := by simp [zzNew]
  rw [zzSl_new] at hscap
  rw [e1] at hcap
  refine va_newaK hx hb harr rfl hd rfl hn rfl (by rcases hkind with ⟨rfl, -⟩ | ⟨rfl, -⟩ <;> (show _ * _ ≤ _; simp [componentBytes, newarray.typeOf]; omega)) (by omega) (by omega) rfl fun H1 cA e1 z1 o1 hAr hNm => ?_
  have hH : H.size = σ Z.1.length := by rw [hsz, hσ _ hlt]
  have hrel1 : zzRel B σ dC dI ca sx (zzNew Z c0 n.toNatClampNeg) H1 := by
    refine zzm_row1 hσ hrel hsz hlt z1 o1 ?_
    rw [hH] at e1
    rcases hkind with ⟨rfl, rfl⟩ | ⟨rfl, rfl⟩
    · have hcA : cA = ca 0 := Option.some.inj (hNm.symm.trans (hK.2 0 _ rfl).2)
      subst hcA
      rw [zzCell_8 rfl]
      show H1[σ Z.1.length]? = some (vp_cell _ _)
      refine e1.trans ?_
      rw [zzNew_e3]
      rfl
    · have hcA : cA = ca 1 := Option.some.inj (hNm.symm.trans (hK.2 1 _ rfl).2)
      subst hcA
      rw [zzCell_9 rfl]
      show H1[σ Z.1.length]? = some (vp_cell _ _)
      refine e1.trans ?_
      rw [zzNew_e3]
      rfl
  rw [hH]
  exact kk H1 hrel1 ⟨Nat.le_trans hS.1 (by omega), fun x h1 h2 => (o1 x (Nat.lt_of_lt_of_le h1 hS.1)).trans (hS.2.1 x h1 h2), hS.2.2⟩
theorem zzm_newq {i L0 S0 : Nat} {n : Int32} {Z : zzH} {rest : List Value} (hx : p.tables.exec = Jvm.exec) (hb : c.code = cc) (hd : decode cc pc = .ok (.anewarray i, 3)) (hown : s.vm.findClass (zzR own) = some m.cls) (hts : ∀ w ∈ ZW, w.before args s = true) (hK : va_K (dC, dI) vwCl (zzTys ca) s) (hao : va_AO RX4 s)
    (hσ : ∀ a, a < 1000 → σ a = B + a) (hrel : zzRel B σ dC dI ca sx Z H) (hS : va_S (fun q : Nat => B ≤ q) s.heap H locs) (h0 : s.heap.size = B + L0) (hc : cells + L0 = Z.1.length) (hsl : slots + S0 = zzSl Z) (hcl : zzGet zzCL own i = some 4) (hlt : Z.1.length < 1000) (hn : ¬ n < 0) (hn2 : n.toNatClampNeg ≤ 100000)
    (hcap : (zzNew Z 10 n.toNatClampNeg).1.length ≤ R.cells + L0) (hscap : zzSl (zzNew Z 10 n.toNatClampNeg) ≤ R.slots + S0)
    (kk : ∀ H' : Heap, zzRel B σ dC dI ca sx (zzNew Z 10 n.toNatClampNeg) H' → va_S (fun q : Nat => B ≤ q) s.heap H' locs → W p l e R s m args below meth c H' locs (cells + 1) (slots + n.toNatClampNeg) Q (F0 m (pc + 3) lsA (.ref (σ Z.1.length) :: rest))) : W p l e R s m args below meth c H locs cells slots Q (F0 m pc lsA (.int n :: rest)) := by
  intro T hT X
  have hsz := zz_size X hT hσ hrel hS h0 hc
  refine (?_ : W p l e R s m args below meth c H locs cells slots Q (F0 m pc lsA (.int n :: rest))) T hT X
  have e1 : (zzNew Z 10 n.toNatClampNeg).1.length = Z.1.length + 1 := by simp [zzNew]
  rw [zzSl_new] at hscap
  rw [e1] at hcap
  have hw := zzCLw _ (zzGet_mem hcl)
  refine W.anew hx hb hown (C := RX4) (hts _ (ZW_of hw.1 hw.2)) (va_AO.use hao) rfl hd rfl hn (by omega) (by omega) (by omega) fun cA kA comp f1 f2 f3 f4 => ?_
  generalize hH1 : H.push ({ cls := cA, slots := Array.replicate n.toNatClampNeg .null, vm := .none } : Cell) = H1
  have z1 : H1.size = H.size + 1 := by rw [← hH1, Array.size_push]
  have e1 : H1[H.size]? = some (arrV cA n.toNatClampNeg (fun _ => .null)) := by rw [← hH1, Array.getElem?_push_size, ← arrV_new]
  have o1 : ∀ q : Nat, q < H.size → H1[q]? = H[q]? := fun q hq => by rw [← hH1, Array.getElem?_push, if_neg (Nat.ne_of_lt hq)]
  have hH : H.size = σ Z.1.length := by rw [hsz, hσ _ hlt]
  have hrel1 : zzRel B σ dC dI ca sx (zzNew Z 10 n.toNatClampNeg) H1 := by
    refine zzm_row1 hσ hrel hsz hlt z1 o1 ?_
    rw [hH] at e1
    have hra := (hK.2 2 _ rfl).2
    obtain ⟨kA', comp', -, -, -, hf⟩ := hra
    have hcA : cA = ca 2 := Option.some.inj (f1.symm.trans hf)
    subst hcA
    rw [zzCell_10 rfl]
    show H1[σ Z.1.length]? = some (vp_cell _ _)
    refine e1.trans ?_
    rw [zzNew_e1]
    rfl
  rw [hH]
  exact kk H1 hrel1 ⟨Nat.le_trans hS.1 (by omega), fun x h1 h2 => (o1 x (Nat.lt_of_lt_of_le h1 hS.1)).trans (hS.2.1 x h1 h2), hS.2.2⟩
end ZZM
