/-! what a frame has from its start; calls; Object's constructor, arraycopy, the texts -/
/-- of the machine's tables and of what lies outside the memory: the same in every frame -/
def zzFr (B : Nat) (σ : Nat → Nat) (dC : Nat → ClassId) (dI : Nat → Nat → Nat) (ca : Nat → ClassId) (sx : Int64 × (Nat → Int32)) (adV : Nat → Nat) (U : State) (H : Heap) : Prop :=
  va_K (dC, dI) vwCl (zzTys ca) U ∧ va_AO RX4 U ∧ (∀ r ∈ zzNest, va_Nw (.methodLinkNest (zzR r.1) r.2.1 (zzM r.2.2).1 RX6) U) ∧ B ≤ H.size ∧
  ((sx.1 < 0 ∨ va_X (σ 2000) sx.1.toNatClampNeg sx.2 U H) ∧ σ 2000 < B) ∧
  (∀ (o i k : Nat), zzGet zzKS o i = some k → vk_R (zzR o) i (zzKt.getD k "") (σ (1000 + k)) U) ∧
  vk_S 13 (zzKc.map List.length) (zzKc.map fun l => l.map fun n => Int32.ofNat n) (fun i => σ (1000 + i)) adV (fun q : Nat => B ≤ q) U H ∧
  va_Z "java/lang/String" "COMPACT_STRINGS" "Z" (.int 1) (fun q : Nat => B ≤ q) U H ∧
  va_Zq "jdk/internal/util/Preconditions" "SIOOBE_FORMATTER" "Ljava/util/function/BiFunction;" (fun q : Nat => B ≤ q) U H
theorem zzFr.moved {B : Nat} {σ : Nat → Nat} {dC : Nat → ClassId} {dI : Nat → Nat → Nat} {ca : Nat → ClassId} {sx : Int64 × (Nat → Int32)} {adV : Nat → Nat} {u U : State} {H H1 : Heap} (h : zzFr B σ dC dI ca sx adV u H) (hW : u.WarmedH U.vm) (hsz : B ≤ H1.size) (hH : ∀ a : Nat, a < H.size → ¬ B ≤ a → H1[a]? = H[a]?) : zzFr B σ dC dI ca sx adV U H1 := by
  obtain ⟨h1, h2, h3, h4, ⟨h5, h6⟩, h7, h8, h9, h10⟩ := h
  have hvm := hW.alike
  refine ⟨va_K.moved hvm h1, ?_, fun r hr => va_Nw.warmM hW (h3 r hr), hsz, ⟨h5.imp id (fun h5 => (h5.kept (hH _ (Nat.lt_of_lt_of_le h6 h4) (Nat.not_le.mpr h6))).moved hvm), h6⟩, fun o i k hk => (h7 o i k hk).warm hW, (h8.kept hH).moved hvm, ?_, ?_⟩
  · exact va_AO.moved hvm h2
  · exact (h9.kept hH).moved hvm
  · exact (h10.kept hH).moved hvm
theorem zzFr.same {B : Nat} {σ : Nat → Nat} {dC : Nat → ClassId} {dI : Nat → Nat → Nat} {ca : Nat → ClassId} {sx : Int64 × (Nat → Int32)} {adV : Nat → Nat} {U : State} {H : Heap} {a : Array Value} {g : JFrame} {mk : MethodId} (h : zzFr B σ dC dI ca sx adV U H) : zzFr B σ dC dI ca sx adV (U.calling g mk a) H := by
  obtain ⟨h1, h2, h3, h4, ⟨h5, h6⟩, h7, h8, h9, h10⟩ := h
  have hvm : U.vm.Alike (U.calling g mk a).vm := Vm.Alike.refl U.vm
  refine ⟨va_K.moved hvm h1, ?_, fun r hr => va_Nw.same rfl rfl (h3 r hr), h4, ⟨h5.imp id (fun h5 => h5.moved hvm), h6⟩, fun o i k hk => (h7 o i k hk).same rfl, h8.moved hvm, ?_, ?_⟩
  · exact va_AO.moved hvm h2
  · exact h9.moved hvm
  · exact h10.moved hvm
/-- a method's start, in words of the memory -/
def zzPre (B : Nat) (σ : Nat → Nat) (dC : Nat → ClassId) (dI : Nat → Nat → Nat) (ca : Nat → ClassId) (sx : Int64 × (Nat → Int32)) (adV : Nat → Nat) (Z : zzH) (U : State) : Prop :=
  zzFr B σ dC dI ca sx adV U U.heap ∧ zzRel B σ dC dI ca sx Z U.heap ∧ U.heap.size = B + Z.1.length
/-- and its end -/
def zzQ (B : Nat) (σ : Nat → Nat) (dC : Nat → ClassId) (dI : Nat → Nat → Nat) (ca : Nat → ClassId) (sx : Int64 × (Nat → Int32)) (r : Option Value) (Z : zzH) : Array Value → State → Outcome → State → Prop := fun _ st oc t =>
  oc = .returned (r.map (zzV σ)) ∧ zzRel B σ dC dI ca sx Z t.heap ∧ va_F (fun q : Nat => B ≤ q) st t
def zzRm (d mc ms : Nat) : Room := { frames := d + 9, cells := mc, slots := ms, locals := 40 * d + 400 }
theorem zzPre_blind {B : Nat} {σ : Nat → Nat} {dC : Nat → ClassId} {dI : Nat → Nat → Nat} {ca : Nat → ClassId} {sx : Int64 × (Nat → Int32)} {adV : Nat → Nat} {Z : zzH} {as : List Value} : FrameBlind (va_Pc as (zzPre B σ dC dI ca sx adV Z)) :=
  fun _ _ _ _ h => ⟨h.1, h.2.1.same, h.2.2.1, h.2.2.2⟩
section ZZC
variable {p : Program} {l : Launch} {e : Env} {R : Room} {s : State} {m : MethodId} {args : Array Value} {below : List Frame} {meth : Method} {c : Code} {H : Heap} {locs : List Loc} {cells slots : Nat} {Q : State → Prop}
variable {cc : ByteArray} {pc nL : Nat} {lsA : Array Slot} {σ : Nat → Nat} {ls : List Value} {own B : Nat} {dC : Nat → ClassId} {dI : Nat → Nat → Nat} {ca : Nat → ClassId} {sx : Int64 × (Nat → Int32)} {adV : Nat → Nat}
theorem zz_call {r : Option Value} {Z' : zzH} {mc ms : Nat} {rest st0 : List Value} {a : Array Value} (hr : va_Run p l e R s m args below meth c H locs cells slots mc ms (F0 m pc lsA st0) rest (zzQ B σ dC dI ca sx r Z' a) (fun q : Nat => B ≤ q)) (hS : va_S (fun q : Nat => B ≤ q) s.heap H locs)
    (kk : ∀ (H1 : Heap) (locs1 : List Loc), zzRel B σ dC dI ca sx Z' H1 → va_S (fun q : Nat => B ≤ q) s.heap H1 locs1 → W p l e R s m args below meth c H1 locs1 (cells + mc) (slots + ms) Q (F0 m (pc + 3) lsA ((r.map (zzV σ)).toList ++ rest))) : W p l e R s m args below meth c H locs cells slots Q (F0 m pc lsA st0) := by
  intro T hT X
  obtain ⟨v, st₀, t, T', L, h0, X', hL, e1, e2, ⟨hv, hrel, hz, hk⟩, st⟩ := hr T hT X
  cases hv
  rw [h0] at hz hk
  obtain ⟨t2, a1, b1⟩ := kk T'.heap (locs ++ L) (by rw [e1]; exact hrel)
    ⟨Nat.le_trans hS.1 (by rw [e1]; exact hz), fun q h1 h2 => by rw [e1, hk q (Nat.lt_of_lt_of_le h1 hS.1) h2]; exact hS.2.1 q h1 h2, fun q hq => by
      rcases List.mem_append.mp hq with h | h
      · exact hS.2.2 q h
      · exact hL q h⟩ T' rfl X'
  exact ⟨t2, st t2 a1, b1⟩
/-- the start of a callee, where the caller stands -/
theorem zz_pre {Z : zzH} {as : List Value} {U : State} (hfr : zzFr B σ dC dI ca sx adV s s.heap) (hrel : zzRel B σ dC dI ca sx Z H) (hsz : H.size = B + Z.1.length) (hS : va_S (fun q : Nat => B ≤ q) s.heap H locs) (hU : U.heap = H) (hW : s.WarmedH U.vm) : va_Pc as (zzPre B σ dC dI ca sx adV Z) as.toArray U := by
  subst hU
  exact ⟨rfl, hfr.moved hW (by omega) (fun a h1 h2 => hS.2.1 a h1 h2), hrel, hsz⟩
theorem ZW_good {w : Cond} (h : w ∈ ZW) : (w.onTables && w.keeps) = true ∨ ∃ ty, w = .arrayClass ty := good_of_word (List.mem_filter.mp h).2
theorem zz_good {x y : Cond} (hy : y ∈ ZW) : GoodIn (x :: ZW) (y :: ZW) := fun w hw => by
  rcases List.mem_cons.mp hw with rfl | h
  · exact ⟨List.mem_cons_of_mem _ hy, ZW_good hy⟩
  · exact ⟨List.mem_cons_of_mem _ h, ZW_good h⟩
theorem zz_goodZ {y : Cond} (hy : y ∈ ZW) : GoodIn ZW (y :: ZW) := fun w hw => by
  rcases List.mem_cons.mp hw with rfl | h
  · exact ⟨hy, ZW_good hy⟩
  · exact ⟨h, ZW_good h⟩
end ZZC
