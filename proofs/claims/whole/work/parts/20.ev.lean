/-! runs without a count: from here to there; the memory of made objects -/
def zzEv (d y pc : Nat) (ls st : List Value) (Z : zzH) (r : Option Value × zzH) : Prop := ∃ n, zzExec n d y pc ls st Z = some r
def zzOp (y pc : Nat) : Option (Instr × Nat) := zzLk (zzM y).2.2.2.2.2.2.2 pc
theorem ev_ret {d y pc : Nat} {ls st : List Value} {Z : zzH} {il : Instr × Nat} {v : Option Value} (h : zzOp y pc = some il) (hr : zzRet (zzM y).2.2.2.1 il st = some v) : zzEv d y pc ls st Z (v, Z) := by
  refine ⟨1, ?_⟩
  unfold zzOp at h
  unfold zzExec
  rw [h]
  dsimp only
  rw [hr]
theorem ev_step {d y pc pc' : Nat} {ls st ls' st' : List Value} {Z Z' : zzH} {il : Instr × Nat} {r : Option Value × zzH} (h : zzOp y pc = some il) (hr : zzRet (zzM y).2.2.2.1 il st = none) (hi : zzInv (zzM y).2.2.2.2.1 il st Z = none) (hs : zzStep (zzM y).2.2.2.2.1 ((zzM y).2.2.2.2.2.2.1 == 2) pc il ls st Z = some (pc', ls', st', Z')) (k : zzEv d y pc' ls' st' Z' r) : zzEv d y pc ls st Z r := by
  obtain ⟨n, hn⟩ := k
  refine ⟨n + 1, ?_⟩
  unfold zzOp at h
  unfold zzExec
  rw [h]
  dsimp only
  rw [hr]
  dsimp only
  rw [hi]
  dsimp only
  rw [hs]
  exact hn
theorem ev_call0 {d y pc y' : Nat} {ls st as rest : List Value} {Z Z' : zzH} {il : Instr × Nat} {v : Option Value} {r : Option Value × zzH} (h : zzOp y pc = some il) (hr : zzRet (zzM y).2.2.2.1 il st = none) (hi : zzInv (zzM y).2.2.2.2.1 il st Z = some (y', as, rest)) (hc : zzEv d y' 0 (zzIn y' as) [] Z (v, Z')) (k : zzEv (d + 1) y (pc + 3) ls (v.toList ++ rest) Z' r) : zzEv (d + 1) y pc ls st Z r := by
  obtain ⟨n1, h1⟩ := hc
  obtain ⟨n2, h2⟩ := k
  refine ⟨n1 + n2 + 1, ?_⟩
  unfold zzOp at h
  unfold zzExec
  rw [h]
  dsimp only
  rw [hr]
  dsimp only
  rw [hi]
  dsimp only
  rw [zzExec_mono n1 n2 _ _ _ _ _ _ _ h1]
  dsimp only
  rw [Nat.add_comm n1 n2]
  exact zzExec_mono n2 n1 _ _ _ _ _ _ _ h2
/-- a deeper room does no harm -/
theorem zzExec_deep : ∀ (n k d y pc : Nat) (ls st : List Value) (Z : zzH) (r : Option Value × zzH), zzExec n d y pc ls st Z = some r → zzExec n (d + k) y pc ls st Z = some r := by
  intro n
  induction n with
  | zero => intro k d y pc ls st Z r h; simp [zzExec] at h
  | succ n ih =>
    intro k d y pc ls st Z r h
    unfold zzExec at h ⊢
    cases h1 : zzLk (zzM y).2.2.2.2.2.2.2 pc with
    | none => rw [h1] at h; exact h
    | some il =>
      rw [h1] at h
      dsimp only at h ⊢
      cases h2 : zzRet (zzM y).2.2.2.1 il st with
      | some r => rw [h2] at h; exact h
      | none =>
        rw [h2] at h
        dsimp only at h ⊢
        cases h3 : zzInv (zzM y).2.2.2.2.1 il st Z with
        | some q =>
          obtain ⟨y', as, rest⟩ := q
          rw [h3] at h
          dsimp only at h ⊢
          cases d with
          | zero => cases h
          | succ d' =>
            rw [show d' + 1 + k = (d' + k) + 1 by omega]
            dsimp only at h ⊢
            cases h4 : zzExec n d' y' 0 (zzIn y' as) [] Z with
            | none => rw [h4] at h; cases h
            | some q =>
              obtain ⟨v, Z'⟩ := q
              rw [h4] at h
              rw [ih k _ _ _ _ _ _ _ h4]
              dsimp only at h ⊢
              rw [show (d' + k) + 1 = (d' + 1) + k by omega]
              exact ih k _ _ _ _ _ _ _ h
        | none =>
          rw [h3] at h
          dsimp only at h ⊢
          cases h4 : zzStep (zzM y).2.2.2.2.1 ((zzM y).2.2.2.2.2.2.1 == 2) pc il ls st Z with
          | none => rw [h4] at h; exact h
          | some q =>
            obtain ⟨pc', ls', st', Z'⟩ := q
            rw [h4] at h
            exact ih k _ _ _ _ _ _ _ h
theorem ev_deep {d d' y pc : Nat} {ls st : List Value} {Z : zzH} {r : Option Value × zzH} (hd : d ≤ d') (h : zzEv d y pc ls st Z r) : zzEv d' y pc ls st Z r := by
  obtain ⟨n, hn⟩ := h
  obtain ⟨k, rfl⟩ : ∃ k, d' = d + k := ⟨d' - d, by omega⟩
  exact ⟨n, zzExec_deep n k d y pc ls st Z r hn⟩
/-! the objects as they stand behind the two constructors -/
def zSH : List (Nat × Nat) := [(6, 9), (5, 5), (8, 960), (8, 18), (8, 160), (2, 7), (8, 160), (0, 11), (8, 8), (8, 8), (8, 8), (8, 8), (8, 24), (8, 6), (0, 11), (8, 8), (8, 8), (8, 8), (8, 8), (8, 24), (8, 6), (0, 11), (8, 8), (8, 8), (8, 8), (8, 8), (8, 24), (8, 6), (3, 7), (8, 480), (8, 8), (8, 8), (8, 8), (1, 6), (8, 6), (8, 6), (8, 6), (10, 4), (4, 3), (8, 40), (4, 3), (8, 40), (4, 3), (8, 40), (4, 3), (8, 40),
  (7, 52), (8, 960), (8, 6), (8, 160), (8, 8), (8, 8), (8, 8), (8, 8), (8, 24), (8, 8), (8, 8), (8, 8), (8, 8), (8, 8), (8, 8), (8, 8), (9, 4), (8, 4), (8, 4), (8, 160)]
def zCo (k a : Nat) : Option Nat := match k with
  | 0 => some 1
  | 5 => some (a + 1)
  | 6 => some (a + 2)
  | 7 => some (a + 3)
  | 8 => some (a + 4)
  | 9 => some (a + 5)
  | 10 => some (a + 6)
  | _ => none
def zMR (a k : Nat) : Option Nat := match a with
  | 0 => ([some 1, some 5, some 7, some 14, some 21, none, some 28, some 33, some 37] : List (Option Nat)).getD k none
  | 1 => ([some 2, some 3, some 4] : List (Option Nat)).getD k none
  | 5 => ([some 1, some 6] : List (Option Nat)).getD k none
  | 7 => zCo k 7
  | 14 => zCo k 14
  | 21 => zCo k 21
  | 28 => ([some 29, some 30, some 31, some 32] : List (Option Nat)).getD k none
  | 33 => ([some 34, some 35, some 36] : List (Option Nat)).getD k none
  | 37 => ([some 38, some 40, some 42, some 44] : List (Option Nat)).getD k none
  | 38 => ([none, none, some 39] : List (Option Nat)).getD k none
  | 40 => ([none, none, some 41] : List (Option Nat)).getD k none
  | 42 => ([none, none, some 43] : List (Option Nat)).getD k none
  | 44 => ([none, none, some 45] : List (Option Nat)).getD k none
  | 46 => ([none, some 47, some 48, none, none, some 49, none, none, none, some 50, some 51, some 52, some 53, some 54, none, none, none, none, none, none, none, none, none, none, none, none, none, none, none, none, some 55, some 56, some 57, none, none, none, none, none, none, none, some 58, some 59, some 60, some 61, none, none, none, none, some 62, some 63, some 64, some 65] : List (Option Nat)).getD k none
  | _ => none
/-- a cell's kind, and its size -/
def zKd (a : Nat) : Nat := (zSH.getD a (99, 0)).1
def zSz (a : Nat) : Nat := (zSH.getD a (99, 0)).2
abbrev zzJ : Type := (Nat → Nat → Int64) × (Nat → Nat → Int32)
def zK (J : zzJ) : zzH := (zSH, zMR, J.1, J.2)
def wI (J : zzJ) (a k : Nat) (v : Int32) : zzJ := (J.1, zzUp J.2 a k v)
def wL (J : zzJ) (a k : Nat) (v : Int64) : zzJ := (zzUp J.1 a k v, J.2)
def wC (J : zzJ) (a : Nat) (f : Nat → Int32) : zzJ := (J.1, zzRo J.2 a f)
theorem zKd_get {a k : Nat} (h : zKd a = k) (hk : k ≠ 99) : zSH[a]? = some (k, zSz a) := by
  unfold zKd at h
  unfold zSz
  rw [List.getD_eq_getElem?_getD] at h ⊢
  cases hz : zSH[a]? with
  | none => rw [hz] at h; exact absurd h.symm hk
  | some q => rw [hz] at h; obtain ⟨x, y⟩ := q; dsimp only [Option.getD_some] at h ⊢; rw [h]
section ZEV
variable {d y pc : Nat} {ls st : List Value} {Z : zzH} {J : zzJ} {r : Option Value × zzH}
theorem ev_push {il : Instr × Nat} {pc' : Nat} {v : Value} (h : zzOp y pc = some il) (hv : zzPush (zzM y).2.2.2.2.1 il = some v) (hr : zzRet (zzM y).2.2.2.1 il st = none) (hi : zzInv (zzM y).2.2.2.2.1 il st Z = none) (hp : pc + il.2 = pc') (k : zzEv d y pc' ls (v :: st) Z r) : zzEv d y pc ls st Z r :=
  ev_step h hr hi (by unfold zzStep; rw [hv]; dsimp only; rw [hp]) k
theorem ev_iconst {n : Int} {x : Int32} {pc' : Nat} (h : zzOp y pc = some (.iconst n, 1)) (hx : Int32.ofInt n = x) (hp : pc + 1 = pc') (k : zzEv d y pc' ls (.int x :: st) Z r) : zzEv d y pc ls st Z r := ev_push h (by rw [← hx]; rfl) rfl rfl hp k
theorem ev_bipush {n : Int} {x : Int32} {pc' : Nat} (h : zzOp y pc = some (.bipush n, 2)) (hx : (Int8.ofInt n).toInt32 = x) (hp : pc + 2 = pc') (k : zzEv d y pc' ls (.int x :: st) Z r) : zzEv d y pc ls st Z r := ev_push h (by rw [← hx]; rfl) rfl rfl hp k
theorem ev_sipush {n : Int} {x : Int32} {pc' : Nat} (h : zzOp y pc = some (.sipush n, 3)) (hx : (Int16.ofInt n).toInt32 = x) (hp : pc + 3 = pc') (k : zzEv d y pc' ls (.int x :: st) Z r) : zzEv d y pc ls st Z r := ev_push h (by rw [← hx]; rfl) rfl rfl hp k
theorem ev_lconst {n : Fin 2} {x : Int64} {pc' : Nat} (h : zzOp y pc = some (.lconst n, 1)) (hx : Int64.ofNat n.val = x) (hp : pc + 1 = pc') (k : zzEv d y pc' ls (.long x :: st) Z r) : zzEv d y pc ls st Z r := ev_push h (by rw [← hx]; rfl) rfl rfl hp k
theorem ev_null {pc' : Nat} (h : zzOp y pc = some (.aconst_null, 1)) (hp : pc + 1 = pc') (k : zzEv d y pc' ls (.null :: st) Z r) : zzEv d y pc ls st Z r := ev_push h rfl rfl rfl hp k
theorem ev_ldcI {i pc' : Nat} {x : Int32} (h : zzOp y pc = some (.ldc i, 2)) (h0 : zzGet zzKS (zzM y).2.2.2.2.1 i = none) (hx : zzGet zzKI (zzM y).2.2.2.2.1 i = some x) (hp : pc + 2 = pc') (k : zzEv d y pc' ls (.int x :: st) Z r) : zzEv d y pc ls st Z r := ev_push h (by simp only [zzPush, h0, hx, Option.map_some]) rfl rfl hp k
theorem ev_ldcS {i j pc' : Nat} (h : zzOp y pc = some (.ldc i, 2)) (hx : zzGet zzKS (zzM y).2.2.2.2.1 i = some j) (hp : pc + 2 = pc') (k : zzEv d y pc' ls (.ref (1000 + j) :: st) Z r) : zzEv d y pc ls st Z r := ev_push h (by simp only [zzPush, hx]) rfl rfl hp k
theorem ev_ldcw {i pc' : Nat} {x : Int32} (h : zzOp y pc = some (.ldc_w i, 3)) (hx : zzGet zzKI (zzM y).2.2.2.2.1 i = some x) (hp : pc + 3 = pc') (k : zzEv d y pc' ls (.int x :: st) Z r) : zzEv d y pc ls st Z r := ev_push h (by simp only [zzPush, hx, Option.map_some]) rfl rfl hp k
theorem ev_ldc2 {i pc' : Nat} {x : Int64} (h : zzOp y pc = some (.ldc2_w i, 3)) (hx : zzGet zzKL (zzM y).2.2.2.2.1 i = some x) (hp : pc + 3 = pc') (k : zzEv d y pc' ls (.long x :: st) Z r) : zzEv d y pc ls st Z r := ev_push h (by simp only [zzPush, hx, Option.map_some]) rfl rfl hp k
/-- an instruction that the rest of zzStep computes by itself -/
theorem ev_s {il : Instr × Nat} {pc' : Nat} {ls' st' : List Value} {Z' : zzH} (h : zzOp y pc = some il) (hr : zzRet (zzM y).2.2.2.1 il st = none) (hi : zzInv (zzM y).2.2.2.2.1 il st Z = none) (hs : zzStep (zzM y).2.2.2.2.1 ((zzM y).2.2.2.2.2.2.1 == 2) pc il ls st Z = some (pc', ls', st', Z')) (k : zzEv d y pc' ls' st' Z' r) : zzEv d y pc ls st Z r := ev_step h hr hi hs k
theorem st_ld {own : Nat} {ini : Bool} {il : Instr × Nat} {i t pc' : Nat} {v : Value} (h0 : zzPush own il = none) (h1 : zzLd il = some (i, t)) (hl : ls[i]? = some v) (ht : zzIs t v = true) (hp : pc + il.2 = pc') : zzStep own ini pc il ls st Z = some (pc', ls, v :: st, Z) := by
  unfold zzStep; rw [h0]; dsimp only; rw [h1]; dsimp only; rw [hl]; dsimp only; rw [if_pos ht, hp]
theorem st_sd {own : Nat} {ini : Bool} {il : Instr × Nat} {i t pc' : Nat} {v : Value} {ls' : List Value} (h0 : zzPush own il = none) (h1 : zzLd il = none) (h2 : zzSd il = some (i, t)) (ht : zzIs t v = true) (hs : zzSet ls i t v = some ls') (hp : pc + il.2 = pc') : zzStep own ini pc il ls (v :: st) Z = some (pc', ls', st, Z) := by
  unfold zzStep; rw [h0]; dsimp only; rw [h1]; dsimp only; rw [h2]; dsimp only; rw [if_pos ht, hs, hp]; rfl
theorem st_ar {own : Nat} {ini : Bool} {il : Instr × Nat} {q : zzS} (h0 : zzPush own il = none) (h1 : zzLd il = none) (h2 : zzSd il = none) (h3 : zzAr pc il ls st Z = some q) : zzStep own ini pc il ls st Z = some q := by
  unfold zzStep; rw [h0]; dsimp only; rw [h1]; dsimp only; rw [h2]; dsimp only; rw [h3]
theorem st_flow {own : Nat} {ini : Bool} {il : Instr × Nat} {q : zzS} (h0 : zzPush own il = none) (h1 : zzLd il = none) (h2 : zzSd il = none) (h3 : zzAr pc il ls st Z = none) (h4 : zzFlow pc il ls st Z = some q) : zzStep own ini pc il ls st Z = some q := by
  unfold zzStep; rw [h0]; dsimp only; rw [h1]; dsimp only; rw [h2]; dsimp only; rw [h3]; dsimp only; rw [h4]
theorem st_mem {own : Nat} {ini : Bool} {il : Instr × Nat} {q : zzS} (h0 : zzPush own il = none) (h1 : zzLd il = none) (h2 : zzSd il = none) (h3 : zzAr pc il ls st Z = none) (h4 : zzFlow pc il ls st Z = none) (h5 : zzMem own ini pc il ls st Z = some q) : zzStep own ini pc il ls st Z = some q := by
  unfold zzStep; rw [h0]; dsimp only; rw [h1]; dsimp only; rw [h2]; dsimp only; rw [h3]; dsimp only; rw [h4]; dsimp only; rw [h5]
theorem st_prim {own : Nat} {ini : Bool} {il : Instr × Nat} {q : zzS} (h0 : zzPush own il = none) (h1 : zzLd il = none) (h2 : zzSd il = none) (h3 : zzAr pc il ls st Z = none) (h4 : zzFlow pc il ls st Z = none) (h5 : zzMem own ini pc il ls st Z = none) (h6 : zzPrim own pc il ls st Z = some q) : zzStep own ini pc il ls st Z = some q := by
  unfold zzStep; rw [h0]; dsimp only; rw [h1]; dsimp only; rw [h2]; dsimp only; rw [h3]; dsimp only; rw [h4]; dsimp only; rw [h5]; exact h6
theorem zz_is3 (o : Option Nat) : zzIs 3 (va_rf o) = true := by cases o <;> rfl
theorem ev_ld {il : Instr × Nat} {i t pc' : Nat} {v : Value} (h : zzOp y pc = some il) (h0 : zzPush (zzM y).2.2.2.2.1 il = none) (h1 : zzLd il = some (i, t)) (hr : zzRet (zzM y).2.2.2.1 il st = none) (hi : zzInv (zzM y).2.2.2.2.1 il st Z = none) (hl : ls[i]? = some v) (hv : zzIs t v = true) (hp : pc + il.2 = pc') (k : zzEv d y pc' ls (v :: st) Z r) : zzEv d y pc ls st Z r := ev_step h hr hi (st_ld h0 h1 hl hv hp) k
theorem ev_sd {il : Instr × Nat} {i t pc' : Nat} {v : Value} {ls' : List Value} (h : zzOp y pc = some il) (h0 : zzPush (zzM y).2.2.2.2.1 il = none) (h1 : zzLd il = none) (h2 : zzSd il = some (i, t)) (hr : zzRet (zzM y).2.2.2.1 il (v :: st) = none) (hi : zzInv (zzM y).2.2.2.2.1 il (v :: st) Z = none) (hs : zzSet ls i t v = some ls') (hv : zzIs t v = true) (hp : pc + il.2 = pc') (k : zzEv d y pc' ls' st Z r) : zzEv d y pc ls (v :: st) Z r := ev_step h hr hi (st_sd h0 h1 h2 hv hs hp) k
/-- loads and stores, a row each: the place, what is there, where it goes on -/
theorem ev_iload {i pc' : Nat} {x : Int32} (h : zzOp y pc = some (.iload i, 2)) (hl : ls[i]? = some (.int x)) (hp : pc + 2 = pc') (k : zzEv d y pc' ls (.int x :: st) Z r) : zzEv d y pc ls st Z r := ev_ld h rfl rfl rfl rfl hl rfl hp k
theorem ev_iload_n {n : Fin 4} {i pc' : Nat} {x : Int32} (h : zzOp y pc = some (.iload_n n, 1)) (hn : n.val = i) (hl : ls[i]? = some (.int x)) (hp : pc + 1 = pc') (k : zzEv d y pc' ls (.int x :: st) Z r) : zzEv d y pc ls st Z r := ev_ld h rfl rfl rfl rfl (hn ▸ hl) rfl hp k
theorem ev_lload {i pc' : Nat} {x : Int64} (h : zzOp y pc = some (.lload i, 2)) (hl : ls[i]? = some (.long x)) (hp : pc + 2 = pc') (k : zzEv d y pc' ls (.long x :: st) Z r) : zzEv d y pc ls st Z r := ev_ld h rfl rfl rfl rfl hl rfl hp k
theorem ev_lload_n {n : Fin 4} {i pc' : Nat} {x : Int64} (h : zzOp y pc = some (.lload_n n, 1)) (hn : n.val = i) (hl : ls[i]? = some (.long x)) (hp : pc + 1 = pc') (k : zzEv d y pc' ls (.long x :: st) Z r) : zzEv d y pc ls st Z r := ev_ld h rfl rfl rfl rfl (hn ▸ hl) rfl hp k
theorem ev_aload {i pc' : Nat} {v : Value} (h : zzOp y pc = some (.aload i, 2)) (hl : ls[i]? = some v) (hv : zzIs 3 v = true) (hp : pc + 2 = pc') (k : zzEv d y pc' ls (v :: st) Z r) : zzEv d y pc ls st Z r := ev_ld h rfl rfl rfl rfl hl hv hp k
theorem ev_aload_n {n : Fin 4} {i pc' : Nat} {v : Value} (h : zzOp y pc = some (.aload_n n, 1)) (hn : n.val = i) (hl : ls[i]? = some v) (hv : zzIs 3 v = true) (hp : pc + 1 = pc') (k : zzEv d y pc' ls (v :: st) Z r) : zzEv d y pc ls st Z r := ev_ld h rfl rfl rfl rfl (hn ▸ hl) hv hp k
theorem ev_istore {i pc' : Nat} {x : Int32} {ls' : List Value} (h : zzOp y pc = some (.istore i, 2)) (hs : zzSet ls i 1 (.int x) = some ls') (hp : pc + 2 = pc') (k : zzEv d y pc' ls' st Z r) : zzEv d y pc ls (.int x :: st) Z r := ev_sd h rfl rfl rfl rfl rfl hs rfl hp k
theorem ev_istore_n {n : Fin 4} {i pc' : Nat} {x : Int32} {ls' : List Value} (h : zzOp y pc = some (.istore_n n, 1)) (hn : n.val = i) (hs : zzSet ls i 1 (.int x) = some ls') (hp : pc + 1 = pc') (k : zzEv d y pc' ls' st Z r) : zzEv d y pc ls (.int x :: st) Z r := ev_sd h rfl rfl rfl rfl rfl (hn ▸ hs) rfl hp k
theorem ev_lstore {i pc' : Nat} {x : Int64} {ls' : List Value} (h : zzOp y pc = some (.lstore i, 2)) (hs : zzSet ls i 2 (.long x) = some ls') (hp : pc + 2 = pc') (k : zzEv d y pc' ls' st Z r) : zzEv d y pc ls (.long x :: st) Z r := ev_sd h rfl rfl rfl rfl rfl hs rfl hp k
theorem ev_lstore_n {n : Fin 4} {i pc' : Nat} {x : Int64} {ls' : List Value} (h : zzOp y pc = some (.lstore_n n, 1)) (hn : n.val = i) (hs : zzSet ls i 2 (.long x) = some ls') (hp : pc + 1 = pc') (k : zzEv d y pc' ls' st Z r) : zzEv d y pc ls (.long x :: st) Z r := ev_sd h rfl rfl rfl rfl rfl (hn ▸ hs) rfl hp k
theorem ev_astore {i pc' : Nat} {v : Value} {ls' : List Value} (h : zzOp y pc = some (.astore i, 2)) (hv : zzIs 3 v = true) (hs : zzSet ls i 3 v = some ls') (hp : pc + 2 = pc') (k : zzEv d y pc' ls' st Z r) : zzEv d y pc ls (v :: st) Z r := ev_sd h rfl rfl rfl (by cases v <;> rfl) rfl hs hv hp k
theorem ev_astore_n {n : Fin 4} {i pc' : Nat} {v : Value} {ls' : List Value} (h : zzOp y pc = some (.astore_n n, 1)) (hn : n.val = i) (hv : zzIs 3 v = true) (hs : zzSet ls i 3 v = some ls') (hp : pc + 1 = pc') (k : zzEv d y pc' ls' st Z r) : zzEv d y pc ls (v :: st) Z r := ev_sd h rfl rfl rfl (by cases v <;> rfl) rfl (hn ▸ hs) hv hp k
/-- arithmetic -/
theorem ev_ar {il : Instr × Nat} {pc' : Nat} {st' : List Value} (h : zzOp y pc = some il) (h0 : zzPush (zzM y).2.2.2.2.1 il = none) (h1 : zzLd il = none) (h2 : zzSd il = none) (hr : zzRet (zzM y).2.2.2.1 il st = none) (hi : zzInv (zzM y).2.2.2.2.1 il st Z = none) (h3 : zzAr pc il ls st Z = some (pc', ls, st', Z)) (k : zzEv d y pc' ls st' Z r) : zzEv d y pc ls st Z r := ev_step h hr hi (st_ar h0 h1 h2 h3) k
theorem ev_iadd {a b : Int32} {pc' : Nat} (h : zzOp y pc = some (.iadd, 1)) (hp : pc + 1 = pc') (k : zzEv d y pc' ls (.int (a + b) :: st) Z r) : zzEv d y pc ls (.int b :: .int a :: st) Z r := ev_ar h rfl rfl rfl rfl rfl rfl (hp ▸ k)
theorem ev_isub {a b : Int32} {pc' : Nat} (h : zzOp y pc = some (.isub, 1)) (hp : pc + 1 = pc') (k : zzEv d y pc' ls (.int (a - b) :: st) Z r) : zzEv d y pc ls (.int b :: .int a :: st) Z r := ev_ar h rfl rfl rfl rfl rfl rfl (hp ▸ k)
theorem ev_imul {a b : Int32} {pc' : Nat} (h : zzOp y pc = some (.imul, 1)) (hp : pc + 1 = pc') (k : zzEv d y pc' ls (.int (a * b) :: st) Z r) : zzEv d y pc ls (.int b :: .int a :: st) Z r := ev_ar h rfl rfl rfl rfl rfl rfl (hp ▸ k)
theorem ev_iand {a b : Int32} {pc' : Nat} (h : zzOp y pc = some (.iand, 1)) (hp : pc + 1 = pc') (k : zzEv d y pc' ls (.int (a &&& b) :: st) Z r) : zzEv d y pc ls (.int b :: .int a :: st) Z r := ev_ar h rfl rfl rfl rfl rfl rfl (hp ▸ k)
theorem ev_ior {a b : Int32} {pc' : Nat} (h : zzOp y pc = some (.ior, 1)) (hp : pc + 1 = pc') (k : zzEv d y pc' ls (.int (a ||| b) :: st) Z r) : zzEv d y pc ls (.int b :: .int a :: st) Z r := ev_ar h rfl rfl rfl rfl rfl rfl (hp ▸ k)
theorem ev_ishl {a b : Int32} {pc' : Nat} (h : zzOp y pc = some (.ishl, 1)) (hp : pc + 1 = pc') (k : zzEv d y pc' ls (.int (a <<< (b &&& 31)) :: st) Z r) : zzEv d y pc ls (.int b :: .int a :: st) Z r := ev_ar h rfl rfl rfl rfl rfl rfl (hp ▸ k)
theorem ev_ishr {a b : Int32} {pc' : Nat} (h : zzOp y pc = some (.ishr, 1)) (hp : pc + 1 = pc') (k : zzEv d y pc' ls (.int (a >>> (b &&& 31)) :: st) Z r) : zzEv d y pc ls (.int b :: .int a :: st) Z r := ev_ar h rfl rfl rfl rfl rfl rfl (hp ▸ k)
def zUsh (x y : Int32) : Int32 := (x.toUInt32 >>> (y.toUInt32 &&& Int32.toUInt32 31)).toInt32
theorem ev_iushr {a b : Int32} {pc' : Nat} (h : zzOp y pc = some (.iushr, 1)) (hp : pc + 1 = pc') (k : zzEv d y pc' ls (.int (zUsh a b) :: st) Z r) : zzEv d y pc ls (.int b :: .int a :: st) Z r := ev_ar h rfl rfl rfl rfl rfl rfl (hp ▸ k)
def zRem (x y : Int32) : Int32 := x - x / y * y
def zRemL (x y : Int64) : Int64 := x - x / y * y
theorem ev_idiv {a b : Int32} {pc' : Nat} (h : zzOp y pc = some (.idiv, 1)) (hb : ¬ b = 0) (hp : pc + 1 = pc') (k : zzEv d y pc' ls (.int (a / b) :: st) Z r) : zzEv d y pc ls (.int b :: .int a :: st) Z r := ev_ar h rfl rfl rfl rfl rfl (if_neg hb) (hp ▸ k)
theorem ev_irem {a b : Int32} {pc' : Nat} (h : zzOp y pc = some (.irem, 1)) (hb : ¬ b = 0) (hp : pc + 1 = pc') (k : zzEv d y pc' ls (.int (zRem a b) :: st) Z r) : zzEv d y pc ls (.int b :: .int a :: st) Z r := ev_ar h rfl rfl rfl rfl rfl (if_neg hb) (hp ▸ k)
theorem zz_un {il : Instr × Nat} {f : Int32 → Int32} {b : Int32} (h0 : zzBi il = none) (h1 : zzDi il = none) (hf : zzUn il = some f) : zzAr pc il ls (.int b :: st) Z = some (pc + 1, ls, .int (f b) :: st, Z) := by
  unfold zzAr
  split
  · next y x st' e => cases e; rw [h0, h1, hf]
  · next y st' _ e => cases e; rw [hf]
  · next e => cases e
  · next h _ => exact absurd rfl (h _ _)
theorem ev_ineg {b : Int32} {pc' : Nat} (h : zzOp y pc = some (.ineg, 1)) (hp : pc + 1 = pc') (k : zzEv d y pc' ls (.int (-b) :: st) Z r) : zzEv d y pc ls (.int b :: st) Z r := ev_ar h rfl rfl rfl rfl rfl (zz_un rfl rfl rfl) (hp ▸ k)
theorem ev_i2b {b : Int32} {pc' : Nat} (h : zzOp y pc = some (.i2b, 1)) (hp : pc + 1 = pc') (k : zzEv d y pc' ls (.int b.toInt8.toInt32 :: st) Z r) : zzEv d y pc ls (.int b :: st) Z r := ev_ar h rfl rfl rfl rfl rfl (zz_un rfl rfl rfl) (hp ▸ k)
theorem ev_i2s {b : Int32} {pc' : Nat} (h : zzOp y pc = some (.i2s, 1)) (hp : pc + 1 = pc') (k : zzEv d y pc' ls (.int b.toInt16.toInt32 :: st) Z r) : zzEv d y pc ls (.int b :: st) Z r := ev_ar h rfl rfl rfl rfl rfl (zz_un rfl rfl rfl) (hp ▸ k)
theorem ev_ladd {a b : Int64} {pc' : Nat} (h : zzOp y pc = some (.ladd, 1)) (hp : pc + 1 = pc') (k : zzEv d y pc' ls (.long (a + b) :: st) Z r) : zzEv d y pc ls (.long b :: .long a :: st) Z r := ev_ar h rfl rfl rfl rfl rfl rfl (hp ▸ k)
theorem ev_lsub {a b : Int64} {pc' : Nat} (h : zzOp y pc = some (.lsub, 1)) (hp : pc + 1 = pc') (k : zzEv d y pc' ls (.long (a - b) :: st) Z r) : zzEv d y pc ls (.long b :: .long a :: st) Z r := ev_ar h rfl rfl rfl rfl rfl rfl (hp ▸ k)
theorem ev_lmul {a b : Int64} {pc' : Nat} (h : zzOp y pc = some (.lmul, 1)) (hp : pc + 1 = pc') (k : zzEv d y pc' ls (.long (a * b) :: st) Z r) : zzEv d y pc ls (.long b :: .long a :: st) Z r := ev_ar h rfl rfl rfl rfl rfl rfl (hp ▸ k)
theorem ev_ldiv {a b : Int64} {pc' : Nat} (h : zzOp y pc = some (.ldiv, 1)) (hb : ¬ b = 0) (hp : pc + 1 = pc') (k : zzEv d y pc' ls (.long (a / b) :: st) Z r) : zzEv d y pc ls (.long b :: .long a :: st) Z r := ev_ar h rfl rfl rfl rfl rfl (if_neg hb) (hp ▸ k)
theorem ev_lrem {a b : Int64} {pc' : Nat} (h : zzOp y pc = some (.lrem, 1)) (hb : ¬ b = 0) (hp : pc + 1 = pc') (k : zzEv d y pc' ls (.long (zRemL a b) :: st) Z r) : zzEv d y pc ls (.long b :: .long a :: st) Z r := ev_ar h rfl rfl rfl rfl rfl (if_neg hb) (hp ▸ k)
end ZEV
