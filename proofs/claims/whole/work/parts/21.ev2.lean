/-! branches, fields, rows, calls -/
section ZEW
variable {d y pc : Nat} {ls st : List Value} {Z : zzH} {J : zzJ} {r : Option Value × zzH}
theorem ar_none {il : Instr × Nat} (h1 : zzBi il = none) (h2 : zzDi il = none) (h3 : zzUn il = none) (h4 : zzBl il = none) (h5 : zzDl il = none) : zzAr pc il ls st Z = none := by
  unfold zzAr
  split
  · rw [h1, h2, h3]
  · rw [h3]
  · rw [h4, h5]
  · rfl
theorem ev_fl {il : Instr × Nat} {pc' : Nat} {ls' st' : List Value} (h : zzOp y pc = some il) (h0 : zzPush (zzM y).2.2.2.2.1 il = none) (h1 : zzLd il = none) (h2 : zzSd il = none) (hr : zzRet (zzM y).2.2.2.1 il st = none) (hi : zzInv (zzM y).2.2.2.2.1 il st Z = none) (b1 : zzBi il = none) (b2 : zzDi il = none) (b3 : zzUn il = none) (b4 : zzBl il = none) (b5 : zzDl il = none) (h3 : zzFlow pc il ls st Z = some (pc', ls', st', Z)) (k : zzEv d y pc' ls' st' Z r) : zzEv d y pc ls st Z r := ev_step h hr hi (st_flow h0 h1 h2 (ar_none b1 b2 b3 b4 b5) h3) k
theorem ev_goto {off : Int} {t : Nat} (h : zzOp y pc = some (.goto off, 3)) (ht : zzTg pc off = some t) (k : zzEv d y t ls st Z r) : zzEv d y pc ls st Z r := ev_fl h rfl rfl rfl rfl rfl rfl rfl rfl rfl rfl (by simp only [zzFlow, ht, Option.map_some]) k
theorem ev_cmp_t {cd : Jvm.ClassFile.Cond} {off : Int} {t : Nat} {a b : Int32} (h : zzOp y pc = some (.if_icmp cd off, 3)) (ht : zzTg pc off = some t) (hc : zzCm cd a b = true) (k : zzEv d y t ls st Z r) : zzEv d y pc ls (.int b :: .int a :: st) Z r := ev_fl h rfl rfl rfl rfl rfl rfl rfl rfl rfl rfl (by simp only [zzFlow, ht, hc, if_true]) k
theorem ev_cmp_f {cd : Jvm.ClassFile.Cond} {off : Int} {t pc' : Nat} {a b : Int32} (h : zzOp y pc = some (.if_icmp cd off, 3)) (ht : zzTg pc off = some t) (hc : ¬ zzCm cd a b = true) (hp : pc + 3 = pc') (k : zzEv d y pc' ls st Z r) : zzEv d y pc ls (.int b :: .int a :: st) Z r := ev_fl h rfl rfl rfl rfl rfl rfl rfl rfl rfl rfl (by simp only [zzFlow, ht, if_neg hc, hp]) k
theorem ev_if_t {cd : Jvm.ClassFile.Cond} {off : Int} {t : Nat} {a : Int32} (h : zzOp y pc = some (.ifCond cd off, 3)) (ht : zzTg pc off = some t) (hc : zzCm cd a 0 = true) (k : zzEv d y t ls st Z r) : zzEv d y pc ls (.int a :: st) Z r := ev_fl h rfl rfl rfl rfl rfl rfl rfl rfl rfl rfl (by simp only [zzFlow, ht, hc, if_true]) k
theorem ev_if_f {cd : Jvm.ClassFile.Cond} {off : Int} {t pc' : Nat} {a : Int32} (h : zzOp y pc = some (.ifCond cd off, 3)) (ht : zzTg pc off = some t) (hc : ¬ zzCm cd a 0 = true) (hp : pc + 3 = pc') (k : zzEv d y pc' ls st Z r) : zzEv d y pc ls (.int a :: st) Z r := ev_fl h rfl rfl rfl rfl rfl rfl rfl rfl rfl rfl (by simp only [zzFlow, ht, if_neg hc, hp]) k
theorem zcm_eq {a b : Int32} (h : a = b) : zzCm .eq a b = true := decide_eq_true h
theorem zcm_neq {a b : Int32} (h : ¬ a = b) : ¬ zzCm .eq a b = true := fun z => h (of_decide_eq_true z)
theorem zcm_ne {a b : Int32} (h : ¬ a = b) : zzCm .ne a b = true := decide_eq_true h
theorem zcm_nne {a b : Int32} (h : a = b) : ¬ zzCm .ne a b = true := fun z => (of_decide_eq_true z : ¬ a = b) h
theorem zcm_lt {a b : Int32} (h : a < b) : zzCm .lt a b = true := decide_eq_true h
theorem zcm_nlt {a b : Int32} (h : ¬ a < b) : ¬ zzCm .lt a b = true := fun z => h (of_decide_eq_true z)
theorem zcm_ge {a b : Int32} (h : ¬ a < b) : zzCm .ge a b = true := decide_eq_true (Int32.not_lt.mp h)
theorem zcm_nge {a b : Int32} (h : a < b) : ¬ zzCm .ge a b = true := fun z => Int32.not_le.mpr h (of_decide_eq_true z)
theorem zcm_gt {a b : Int32} (h : b < a) : zzCm .gt a b = true := decide_eq_true h
theorem zcm_ngt {a b : Int32} (h : ¬ b < a) : ¬ zzCm .gt a b = true := fun z => h (of_decide_eq_true z)
theorem zcm_le {a b : Int32} (h : ¬ b < a) : zzCm .le a b = true := decide_eq_true (Int32.not_lt.mp h)
theorem zcm_nle {a b : Int32} (h : b < a) : ¬ zzCm .le a b = true := fun z => Int32.not_le.mpr h (of_decide_eq_true z)
theorem ev_ifnull_r {off : Int} {t a pc' : Nat} (h : zzOp y pc = some (.ifnull off, 3)) (ht : zzTg pc off = some t) (hp : pc + 3 = pc') (k : zzEv d y pc' ls st Z r) : zzEv d y pc ls (.ref a :: st) Z r := ev_fl h rfl rfl rfl rfl rfl rfl rfl rfl rfl rfl (by simp only [zzFlow, ht, hp]) k
theorem ev_ifnull_n {off : Int} {t : Nat} (h : zzOp y pc = some (.ifnull off, 3)) (ht : zzTg pc off = some t) (k : zzEv d y t ls st Z r) : zzEv d y pc ls (.null :: st) Z r := ev_fl h rfl rfl rfl rfl rfl rfl rfl rfl rfl rfl (by simp only [zzFlow, ht]) k
theorem ev_ifnn_r {off : Int} {t a : Nat} (h : zzOp y pc = some (.ifnonnull off, 3)) (ht : zzTg pc off = some t) (k : zzEv d y t ls st Z r) : zzEv d y pc ls (.ref a :: st) Z r := ev_fl h rfl rfl rfl rfl rfl rfl rfl rfl rfl rfl (by simp only [zzFlow, ht]) k
theorem ev_ifnn_n {off : Int} {t pc' : Nat} (h : zzOp y pc = some (.ifnonnull off, 3)) (ht : zzTg pc off = some t) (hp : pc + 3 = pc') (k : zzEv d y pc' ls st Z r) : zzEv d y pc ls (.null :: st) Z r := ev_fl h rfl rfl rfl rfl rfl rfl rfl rfl rfl rfl (by simp only [zzFlow, ht, hp]) k
/-- where a switch goes: places with their target, else the other one -/
def zSw (x : Int32) (ts : List (Int32 × Nat)) (df : Nat) : Nat := match ts with
  | [] => df
  | q :: l => if x = q.1 then q.2 else zSw x l df
theorem ev_table {df lo hi : Int} {offs : Array Int} {len t : Nat} {x : Int32} (h : zzOp y pc = some (.tableswitch df lo hi offs, len)) (ht : zzFlow pc (.tableswitch df lo hi offs, len) ls (.int x :: st) Z = some (t, ls, st, Z)) (k : zzEv d y t ls st Z r) : zzEv d y pc ls (.int x :: st) Z r := ev_fl h rfl rfl rfl rfl rfl rfl rfl rfl rfl rfl ht k
theorem ev_lookup {df : Int} {ps : Array (Int × Int)} {len t : Nat} {x : Int32} (h : zzOp y pc = some (.lookupswitch df ps, len)) (ht : zzFlow pc (.lookupswitch df ps, len) ls (.int x :: st) Z = some (t, ls, st, Z)) (k : zzEv d y t ls st Z r) : zzEv d y pc ls (.int x :: st) Z r := ev_fl h rfl rfl rfl rfl rfl rfl rfl rfl rfl rfl ht k
theorem ev_iinc {i pc' : Nat} {n : Int} {x v : Int32} {ls' : List Value} (h : zzOp y pc = some (.iinc i n, 3)) (hl : ls[i]? = some (.int x)) (hn : Int32.ofInt n = v) (hs : zzSet ls i 1 (.int (x + v)) = some ls') (hp : pc + 3 = pc') (k : zzEv d y pc' ls' st Z r) : zzEv d y pc ls st Z r := ev_fl h rfl rfl rfl rfl rfl rfl rfl rfl rfl rfl (by subst hn; simp only [zzFlow, hl, hs, Option.map_some, hp]) k
theorem ev_dup {v : Value} {pc' : Nat} (h : zzOp y pc = some (.dup, 1)) (hv : v.category = 1) (hp : pc + 1 = pc') (k : zzEv d y pc' ls (v :: v :: st) Z r) : zzEv d y pc ls (v :: st) Z r := ev_fl h rfl rfl rfl (by cases v <;> rfl) rfl rfl rfl rfl rfl rfl (by simp only [zzFlow, hv, if_true, hp]) k
theorem ev_pop {v : Value} {pc' : Nat} (h : zzOp y pc = some (.pop, 1)) (hv : v.category = 1) (hp : pc + 1 = pc') (k : zzEv d y pc' ls st Z r) : zzEv d y pc ls (v :: st) Z r := ev_fl h rfl rfl rfl (by cases v <;> rfl) rfl rfl rfl rfl rfl rfl (by simp only [zzFlow, hv, if_true, hp]) k
theorem ev_dup2 {v w : Value} {pc' : Nat} (h : zzOp y pc = some (.dup2, 1)) (hv : v.category = 1) (hw : w.category = 1) (hp : pc + 1 = pc') (k : zzEv d y pc' ls (v :: w :: v :: w :: st) Z r) : zzEv d y pc ls (v :: w :: st) Z r := ev_fl h rfl rfl rfl (by cases v <;> rfl) rfl rfl rfl rfl rfl rfl (by simp only [zzFlow, hv, hw, and_self, if_true, hp]) k
theorem ev_i2l {x : Int32} {pc' : Nat} (h : zzOp y pc = some (.i2l, 1)) (hp : pc + 1 = pc') (k : zzEv d y pc' ls (.long x.toInt64 :: st) Z r) : zzEv d y pc ls (.int x :: st) Z r := ev_fl h rfl rfl rfl rfl rfl rfl rfl rfl rfl rfl (by simp only [zzFlow, hp]) k
theorem ev_l2i {x : Int64} {pc' : Nat} (h : zzOp y pc = some (.l2i, 1)) (hp : pc + 1 = pc') (k : zzEv d y pc' ls (.int x.toInt32 :: st) Z r) : zzEv d y pc ls (.long x :: st) Z r := ev_fl h rfl rfl rfl rfl rfl rfl rfl rfl rfl rfl (by simp only [zzFlow, hp]) k
theorem ev_lcmp {a b : Int64} {pc' : Nat} (h : zzOp y pc = some (.lcmp, 1)) (hp : pc + 1 = pc') (k : zzEv d y pc' ls (.int (lg_cmp a b) :: st) Z r) : zzEv d y pc ls (.long b :: .long a :: st) Z r := ev_fl h rfl rfl rfl rfl rfl rfl rfl rfl rfl rfl (by simp only [zzFlow, hp]) k
/-! the memory of made objects -/
theorem fl_none {il : Instr × Nat} (h : ∀ (ls st : List Value) (Z : zzH), zzFlow pc il ls st Z = none) : zzFlow pc il ls st Z = none := h ls st Z
theorem ev_me {il : Instr × Nat} {pc' : Nat} {ls' st' : List Value} {Z' : zzH} (h : zzOp y pc = some il) (h0 : zzPush (zzM y).2.2.2.2.1 il = none) (h1 : zzLd il = none) (h2 : zzSd il = none) (hr : zzRet (zzM y).2.2.2.1 il st = none) (hi : zzInv (zzM y).2.2.2.2.1 il st Z = none) (b1 : zzBi il = none) (b2 : zzDi il = none) (b3 : zzUn il = none) (b4 : zzBl il = none) (b5 : zzDl il = none) (h3 : zzFlow pc il ls st Z = none) (h4 : zzMem (zzM y).2.2.2.2.1 ((zzM y).2.2.2.2.2.2.1 == 2) pc il ls st Z = some (pc', ls', st', Z')) (k : zzEv d y pc' ls' st' Z' r) : zzEv d y pc ls st Z r := ev_step h hr hi (st_mem h0 h1 h2 (ar_none b1 b2 b3 b4 b5) h3 h4) k
theorem ev_getI {i a c k pc' : Nat} (h : zzOp y pc = some (.getfield i, 3)) (hf : zzGet zzFL (zzM y).2.2.2.2.1 i = some (c, k)) (hc : c ≠ 99) (ht : zzT c k = 0 ∨ zzT c k = 1) (ha : zKd a = c) (hp : pc + 3 = pc') (kk : zzEv d y pc' ls (.int (J.2 a k) :: st) (zK J) r) : zzEv d y pc ls (.ref a :: st) (zK J) r := by
  refine ev_me h rfl rfl rfl rfl rfl rfl rfl rfl rfl rfl rfl (pc' := pc') (ls' := ls) (st' := .int (J.2 a k) :: st) (Z' := zK J) ?_ kk
  have hz : (zK J).1[a]? = some (c, zSz a) := zKd_get ha hc
  have hv : zzFv (zK J) c a k = .int (J.2 a k) := by
    unfold zzFv
    rcases ht with e | e <;> rw [e] <;> rfl
  simp only [zzMem, hf, hz, if_true, hv, hp]
theorem ev_getL {i a c k pc' : Nat} (h : zzOp y pc = some (.getfield i, 3)) (hf : zzGet zzFL (zzM y).2.2.2.2.1 i = some (c, k)) (hc : c ≠ 99) (ht : zzT c k = 2) (ha : zKd a = c) (hp : pc + 3 = pc') (kk : zzEv d y pc' ls (.long (J.1 a k) :: st) (zK J) r) : zzEv d y pc ls (.ref a :: st) (zK J) r := by
  refine ev_me h rfl rfl rfl rfl rfl rfl rfl rfl rfl rfl rfl (pc' := pc') (ls' := ls) (st' := .long (J.1 a k) :: st) (Z' := zK J) ?_ kk
  have hz : (zK J).1[a]? = some (c, zSz a) := zKd_get ha hc
  have hv : zzFv (zK J) c a k = .long (J.1 a k) := by unfold zzFv; rw [ht]; rfl
  simp only [zzMem, hf, hz, if_true, hv, hp]
theorem ev_getR {i a c k pc' b : Nat} (h : zzOp y pc = some (.getfield i, 3)) (hf : zzGet zzFL (zzM y).2.2.2.2.1 i = some (c, k)) (hc : c ≠ 99) (ht : zzT c k = 3) (ha : zKd a = c) (hb : zMR a k = some b) (hp : pc + 3 = pc') (kk : zzEv d y pc' ls (.ref b :: st) (zK J) r) : zzEv d y pc ls (.ref a :: st) (zK J) r := by
  refine ev_me h rfl rfl rfl rfl rfl rfl rfl rfl rfl rfl rfl (pc' := pc') (ls' := ls) (st' := .ref b :: st) (Z' := zK J) ?_ kk
  have hz : (zK J).1[a]? = some (c, zSz a) := zKd_get ha hc
  have hv : zzFv (zK J) c a k = .ref b := by
    unfold zzFv; rw [ht]
    show va_rf (zMR a k) = _
    rw [hb]; rfl
  simp only [zzMem, hf, hz, if_true, hv, hp]
theorem ev_putI {i a c k pc' : Nat} {x : Int32} (h : zzOp y pc = some (.putfield i, 3)) (hf : zzGet zzFL (zzM y).2.2.2.2.1 i = some (c, k)) (hc : c ≠ 99) (ht : zzT c k = 0) (hn : zzFin c k = false) (ha : zKd a = c) (hp : pc + 3 = pc') (kk : zzEv d y pc' ls st (zK (wI J a k x)) r) : zzEv d y pc ls (.int x :: .ref a :: st) (zK J) r := by
  refine ev_me h rfl rfl rfl rfl rfl rfl rfl rfl rfl rfl rfl (pc' := pc') (ls' := ls) (st' := st) (Z' := zK (wI J a k x)) ?_ kk
  have hz : (zK J).1[a]? = some (c, zSz a) := zKd_get ha hc
  have hv : zzPut (zK J) c a k (.int x) = some (zK (wI J a k x)) := by unfold zzPut; rw [ht]; rfl
  simp only [zzMem, hf, hz, hn, true_or, and_self, if_true, hv, Option.map_some, hp]
theorem ev_putZ {i a c k pc' : Nat} {x : Int32} (h : zzOp y pc = some (.putfield i, 3)) (hf : zzGet zzFL (zzM y).2.2.2.2.1 i = some (c, k)) (hc : c ≠ 99) (ht : zzT c k = 1) (hn : zzFin c k = false) (ha : zKd a = c) (hx : x = 0 ∨ x = 1) (hp : pc + 3 = pc') (kk : zzEv d y pc' ls st (zK (wI J a k x)) r) : zzEv d y pc ls (.int x :: .ref a :: st) (zK J) r := by
  refine ev_me h rfl rfl rfl rfl rfl rfl rfl rfl rfl rfl rfl (pc' := pc') (ls' := ls) (st' := st) (Z' := zK (wI J a k x)) ?_ kk
  have hz : (zK J).1[a]? = some (c, zSz a) := zKd_get ha hc
  have hv : zzPut (zK J) c a k (.int x) = some (zK (wI J a k x)) := by unfold zzPut; rw [ht]; exact if_pos hx
  simp only [zzMem, hf, hz, hn, true_or, and_self, if_true, hv, Option.map_some, hp]
theorem ev_putL {i a c k pc' : Nat} {x : Int64} (h : zzOp y pc = some (.putfield i, 3)) (hf : zzGet zzFL (zzM y).2.2.2.2.1 i = some (c, k)) (hc : c ≠ 99) (ht : zzT c k = 2) (hn : zzFin c k = false) (ha : zKd a = c) (hp : pc + 3 = pc') (kk : zzEv d y pc' ls st (zK (wL J a k x)) r) : zzEv d y pc ls (.long x :: .ref a :: st) (zK J) r := by
  refine ev_me h rfl rfl rfl rfl rfl rfl rfl rfl rfl rfl rfl (pc' := pc') (ls' := ls) (st' := st) (Z' := zK (wL J a k x)) ?_ kk
  have hz : (zK J).1[a]? = some (c, zSz a) := zKd_get ha hc
  have hv : zzPut (zK J) c a k (.long x) = some (zK (wL J a k x)) := by unfold zzPut; rw [ht]; rfl
  simp only [zzMem, hf, hz, hn, true_or, and_self, if_true, hv, Option.map_some, hp]
theorem ev_iald {a pc' : Nat} {i : Int32} (h : zzOp y pc = some (.iaload, 1)) (ha : zKd a = 8) (hin : zzIx i (zSz a)) (hp : pc + 1 = pc') (kk : zzEv d y pc' ls (.int (J.2 a i.toNatClampNeg) :: st) (zK J) r) : zzEv d y pc ls (.int i :: .ref a :: st) (zK J) r := by
  refine ev_me h rfl rfl rfl rfl rfl rfl rfl rfl rfl rfl rfl (pc' := pc') (ls' := ls) (st' := .int (J.2 a i.toNatClampNeg) :: st) (Z' := zK J) ?_ kk
  have hz : (zK J).1[a]? = some (8, zSz a) := zKd_get ha (by omega)
  have hne : ¬ a = 2000 := by rintro rfl; cases ha
  have e : zzMem (zzM y).2.2.2.2.1 ((zzM y).2.2.2.2.2.2.1 == 2) pc (.iaload, 1) ls (.int i :: .ref a :: st) (zK J) = (if a = 2000 then (if zzIx i ((zK J).2.2.1 2000 0).toNatClampNeg then some (pc + 1, ls, .int ((zK J).2.2.2 2000 i.toNatClampNeg) :: st, zK J) else none) else (match (zK J).1[a]? with
      | some q => if q.1 = 8 ∧ zzIx i q.2 then some (pc + 1, ls, .int ((zK J).2.2.2 a i.toNatClampNeg) :: st, zK J) else none
      | _ => none)) := rfl
  rw [e, if_neg hne, hz]
  dsimp only
  rw [if_pos ⟨rfl, hin⟩, hp]
  rfl
theorem ev_sald {pc' : Nat} {i : Int32} (h : zzOp y pc = some (.iaload, 1)) (hin : zzIx i (J.1 2000 0).toNatClampNeg) (hp : pc + 1 = pc') (kk : zzEv d y pc' ls (.int (J.2 2000 i.toNatClampNeg) :: st) (zK J) r) : zzEv d y pc ls (.int i :: .ref 2000 :: st) (zK J) r := by
  refine ev_me h rfl rfl rfl rfl rfl rfl rfl rfl rfl rfl rfl (pc' := pc') (ls' := ls) (st' := .int (J.2 2000 i.toNatClampNeg) :: st) (Z' := zK J) ?_ kk
  have e : zzMem (zzM y).2.2.2.2.1 ((zzM y).2.2.2.2.2.2.1 == 2) pc (.iaload, 1) ls (.int i :: .ref 2000 :: st) (zK J) = (if zzIx i ((zK J).2.2.1 2000 0).toNatClampNeg then some (pc + 1, ls, .int ((zK J).2.2.2 2000 i.toNatClampNeg) :: st, zK J) else none) := rfl
  rw [e, hp]
  exact if_pos hin
theorem ev_slen {pc' : Nat} (h : zzOp y pc = some (.arraylength, 1)) (h0 : ¬ J.1 2000 0 < 0) (hp : pc + 1 = pc') (kk : zzEv d y pc' ls (.int (Int32.ofNat (J.1 2000 0).toNatClampNeg) :: st) (zK J) r) : zzEv d y pc ls (.ref 2000 :: st) (zK J) r := by
  refine ev_me h rfl rfl rfl rfl rfl rfl rfl rfl rfl rfl rfl (pc' := pc') (ls' := ls) (st' := .int (Int32.ofNat (J.1 2000 0).toNatClampNeg) :: st) (Z' := zK J) ?_ kk
  have e : zzMem (zzM y).2.2.2.2.1 ((zzM y).2.2.2.2.2.2.1 == 2) pc (.arraylength, 1) ls (.ref 2000 :: st) (zK J) = (if (zK J).2.2.1 2000 0 < 0 then none else some (pc + 1, ls, .int (Int32.ofNat ((zK J).2.2.1 2000 0).toNatClampNeg) :: st, zK J)) := rfl
  subst hp
  rw [e]
  exact if_neg h0
theorem ev_alen {a pc' : Nat} (h : zzOp y pc = some (.arraylength, 1)) (ha : 8 ≤ zKd a ∧ zKd a ≤ 10) (hp : pc + 1 = pc') (kk : zzEv d y pc' ls (.int (Int32.ofNat (zSz a)) :: st) (zK J) r) : zzEv d y pc ls (.ref a :: st) (zK J) r := by
  refine ev_me h rfl rfl rfl rfl rfl rfl rfl rfl rfl rfl rfl (pc' := pc') (ls' := ls) (st' := .int (Int32.ofNat (zSz a)) :: st) (Z' := zK J) ?_ kk
  have hz : (zK J).1[a]? = some (zKd a, zSz a) := zKd_get rfl (by omega)
  have hne : ¬ a = 2000 := by rintro rfl; exact absurd ha.2 (by decide)
  have e : zzMem (zzM y).2.2.2.2.1 ((zzM y).2.2.2.2.2.2.1 == 2) pc (.arraylength, 1) ls (.ref a :: st) (zK J) = (if a = 2000 then (if (zK J).2.2.1 2000 0 < 0 then none else some (pc + 1, ls, .int (Int32.ofNat ((zK J).2.2.1 2000 0).toNatClampNeg) :: st, zK J)) else (match (zK J).1[a]? with
      | some q => if 8 ≤ q.1 then some (pc + 1, ls, .int (Int32.ofNat q.2) :: st, zK J) else none
      | _ => none)) := rfl
  rw [e, if_neg hne, hz]
  dsimp only
  rw [if_pos ha.1, hp]
theorem ev_iast {a pc' : Nat} {i x : Int32} (h : zzOp y pc = some (.iastore, 1)) (ha : zKd a = 8) (hin : zzIx i (zSz a)) (hp : pc + 1 = pc') (kk : zzEv d y pc' ls st (zK (wI J a i.toNatClampNeg x)) r) : zzEv d y pc ls (.int x :: .int i :: .ref a :: st) (zK J) r := by
  refine ev_me h rfl rfl rfl rfl rfl rfl rfl rfl rfl rfl rfl (pc' := pc') (ls' := ls) (st' := st) (Z' := zK (wI J a i.toNatClampNeg x)) ?_ kk
  have hz : (zK J).1[a]? = some (8, zSz a) := zKd_get ha (by omega)
  simp only [zzMem, hz, true_and, if_pos hin, hp]
  rfl
theorem ev_bald {a pc' : Nat} {i : Int32} (h : zzOp y pc = some (.baload, 1)) (ha : zKd a = 9) (hin : zzIx i (zSz a)) (hp : pc + 1 = pc') (kk : zzEv d y pc' ls (.int (J.2 a i.toNatClampNeg) :: st) (zK J) r) : zzEv d y pc ls (.int i :: .ref a :: st) (zK J) r := by
  refine ev_me h rfl rfl rfl rfl rfl rfl rfl rfl rfl rfl rfl (pc' := pc') (ls' := ls) (st' := .int (J.2 a i.toNatClampNeg) :: st) (Z' := zK J) ?_ kk
  have hz : (zK J).1[a]? = some (9, zSz a) := zKd_get ha (by omega)
  simp only [zzMem, hz, true_and, if_pos hin, hp]
  rfl
theorem ev_bast {a pc' : Nat} {i x : Int32} (h : zzOp y pc = some (.bastore, 1)) (ha : zKd a = 9) (hin : zzIx i (zSz a)) (hx : x = 0 ∨ x = 1) (hp : pc + 1 = pc') (kk : zzEv d y pc' ls st (zK (wI J a i.toNatClampNeg x)) r) : zzEv d y pc ls (.int x :: .int i :: .ref a :: st) (zK J) r := by
  refine ev_me h rfl rfl rfl rfl rfl rfl rfl rfl rfl rfl rfl (pc' := pc') (ls' := ls) (st' := st) (Z' := zK (wI J a i.toNatClampNeg x)) ?_ kk
  have hz : (zK J).1[a]? = some (9, zSz a) := zKd_get ha (by omega)
  have e : zzMem (zzM y).2.2.2.2.1 ((zzM y).2.2.2.2.2.2.1 == 2) pc (.bastore, 1) ls (.int x :: .int i :: .ref a :: st) (zK J) = (match (zK J).1[a]? with
      | some q => if q.1 = 9 ∧ zzIx i q.2 ∧ (x = 0 ∨ x = 1) then some (pc + 1, ls, st, ((zK J).1, (zK J).2.1, (zK J).2.2.1, zzUp (zK J).2.2.2 a i.toNatClampNeg x)) else none
      | _ => none) := rfl
  rw [e, hz]
  dsimp only
  rw [if_pos ⟨rfl, hin, hx⟩, hp]
  rfl
theorem ev_aald {a b pc' : Nat} {i : Int32} (h : zzOp y pc = some (.aaload, 1)) (ha : zKd a = 10) (hin : zzIx i (zSz a)) (hb : zMR a i.toNatClampNeg = some b) (hp : pc + 1 = pc') (kk : zzEv d y pc' ls (.ref b :: st) (zK J) r) : zzEv d y pc ls (.int i :: .ref a :: st) (zK J) r := by
  refine ev_me h rfl rfl rfl rfl rfl rfl rfl rfl rfl rfl rfl (pc' := pc') (ls' := ls) (st' := .ref b :: st) (Z' := zK J) ?_ kk
  have hz : (zK J).1[a]? = some (10, zSz a) := zKd_get ha (by omega)
  have hv : va_rf ((zK J).2.1 a i.toNatClampNeg) = .ref b := by
    show va_rf (zMR a i.toNatClampNeg) = _
    rw [hb]; rfl
  simp only [zzMem, hz, true_and, if_pos hin, hp, hv]
theorem ev_pr {il : Instr × Nat} {pc' : Nat} {ls' st' : List Value} {Z' : zzH} (h : zzOp y pc = some il) (h0 : zzPush (zzM y).2.2.2.2.1 il = none) (h1 : zzLd il = none) (h2 : zzSd il = none) (hr : zzRet (zzM y).2.2.2.1 il st = none) (hi : zzInv (zzM y).2.2.2.2.1 il st Z = none) (b1 : zzBi il = none) (b2 : zzDi il = none) (b3 : zzUn il = none) (b4 : zzBl il = none) (b5 : zzDl il = none) (h3 : zzFlow pc il ls st Z = none) (h4 : zzMem (zzM y).2.2.2.2.1 ((zzM y).2.2.2.2.2.2.1 == 2) pc il ls st Z = none) (h5 : zzPrim (zzM y).2.2.2.2.1 pc il ls st Z = some (pc', ls', st', Z')) (k : zzEv d y pc' ls' st' Z' r) : zzEv d y pc ls st Z r := ev_step h hr hi (st_prim h0 h1 h2 (ar_none b1 b2 b3 b4 b5) h3 h4 h5) k
theorem inv_prim {own i kd q : Nat} {il : Instr × Nat} (h : zzGet zzML own i = some (kd, q)) (hk : 4 ≤ kd) (hil : zzIk il = some (i, 0) ∨ zzIk il = some (i, 2) ∨ zzIk il = some (i, 3)) : zzInv own il st Z = none := by
  unfold zzInv
  rcases hil with e | e | e <;> rw [e] <;> dsimp only <;> rw [h] <;> dsimp only <;> exact if_neg (by omega)
theorem ev_copy {i q a b pc' : Nat} {n dp sp : Int32} (h : zzOp y pc = some (.invokestatic i, 3)) (hm : zzGet zzML (zzM y).2.2.2.2.1 i = some (5, q)) (hcat : zzCat st ≤ 8) (ha : zKd a = 8) (hb : zKd b = 8) (g1 : ¬ sp < 0) (g2 : ¬ dp < 0) (g3 : ¬ n < 0) (g4 : sp.toNatClampNeg + n.toNatClampNeg ≤ zSz b) (g5 : dp.toNatClampNeg + n.toNatClampNeg ≤ zSz a) (hp : pc + 3 = pc') (kk : zzEv d y pc' ls st (zK (wC J a (va_cpy (J.2 b) (J.2 a) sp.toNatClampNeg dp.toNatClampNeg n.toNatClampNeg))) r) : zzEv d y pc ls (.int n :: .int dp :: .ref a :: .int sp :: .ref b :: st) (zK J) r := by
  refine ev_pr h rfl rfl rfl rfl (inv_prim hm (by omega) (Or.inl rfl)) rfl rfl rfl rfl rfl rfl rfl (pc' := pc') (ls' := ls) (st' := st) (Z' := zK (wC J a (va_cpy (J.2 b) (J.2 a) sp.toNatClampNeg dp.toNatClampNeg n.toNatClampNeg))) ?_ kk
  have hz : (zK J).1[a]? = some (8, zSz a) := zKd_get ha (by omega)
  have hw : (zK J).1[b]? = some (8, zSz b) := zKd_get hb (by omega)
  simp only [zzPrim, hm, hz, hw]
  rw [if_pos ⟨hcat, trivial, trivial, g1, g2, g3, g4, g5⟩, hp]
  rfl
theorem ev_slength {i q a pc' : Nat} (h : zzOp y pc = some (.invokevirtual i, 3)) (hm : zzGet zzML (zzM y).2.2.2.2.1 i = some (6, q)) (hcat : zzCat st ≤ 8) (ha : 1000 ≤ a ∧ a < 1013) (hp : pc + 3 = pc') (kk : zzEv d y pc' ls (.int (Int32.ofNat (zzTx (a - 1000)).length) :: st) Z r) : zzEv d y pc ls (.ref a :: st) Z r := by
  refine ev_pr h rfl rfl rfl rfl (inv_prim hm (by omega) (Or.inr (Or.inl rfl))) rfl rfl rfl rfl rfl rfl rfl (pc' := pc') (ls' := ls) (st' := .int (Int32.ofNat (zzTx (a - 1000)).length) :: st) (Z' := Z) ?_ kk
  simp only [zzPrim, hm]
  rw [if_pos ⟨ha.1, ha.2, hcat⟩, hp]
theorem ev_scharAt {i q a pc' : Nat} {k : Int32} (h : zzOp y pc = some (.invokevirtual i, 3)) (hm : zzGet zzML (zzM y).2.2.2.2.1 i = some (7, q)) (hcat : zzCat st ≤ 8) (ha : 1000 ≤ a ∧ a < 1013) (hin : zzIx k (zzTx (a - 1000)).length) (hp : pc + 3 = pc') (kk : zzEv d y pc' ls (.int (Int32.ofNat ((zzTx (a - 1000)).getD k.toNatClampNeg 0)) :: st) Z r) : zzEv d y pc ls (.int k :: .ref a :: st) Z r := by
  refine ev_pr h rfl rfl rfl rfl (inv_prim hm (by omega) (Or.inr (Or.inl rfl))) rfl rfl rfl rfl rfl rfl rfl (pc' := pc') (ls' := ls) (st' := .int (Int32.ofNat ((zzTx (a - 1000)).getD k.toNatClampNeg 0)) :: st) (Z' := Z) ?_ kk
  simp only [zzPrim, hm]
  rw [if_pos ⟨ha.1, ha.2, hcat, hin⟩, hp]
/-- calls: the arguments lie on the stack, the last on top -/
theorem ev_callS {i kd y' pc' : Nat} {as lsn rest : List Value} {v : Option Value} {Z' : zzH} (h : zzOp y pc = some (.invokestatic i, 3)) (hm : zzGet zzML (zzM y).2.2.2.2.1 i = some (kd, y')) (hk : kd ≤ 1) (hn : (zzM y').2.2.2.2.2.1 = as.length) (he : zzIn y' as.reverse = lsn) (hlen : (zzEnt as.reverse).length ≤ (zzM y').2.2.1) (hcat : zzCat rest ≤ 8) (hc : zzEv d y' 0 lsn [] Z (v, Z')) (hp : pc + 3 = pc') (kk : zzEv (d + 1) y pc' ls (v.toList ++ rest) Z' r) : zzEv (d + 1) y pc ls (as ++ rest) Z r := by
  subst hp
  subst he
  refine ev_call0 h rfl ?_ hc kk
  unfold zzInv
  rw [show zzIk (.invokestatic i, 3) = some (i, 0) from rfl]
  dsimp only
  rw [hm]
  dsimp only
  rw [hn, List.take_left' rfl, List.drop_left' rfl, if_pos ⟨by simp, hcat, hlen, Or.inl ⟨rfl, hk⟩⟩]
theorem ev_callV {i y' pc' a : Nat} {as lsn rest : List Value} {v : Option Value} {J : zzJ} {Z' : zzH} (h : zzOp y pc = some (.invokevirtual i, 3)) (hm : zzGet zzML (zzM y).2.2.2.2.1 i = some (2, y')) (hn : (zzM y').2.2.2.2.2.1 = as.length + 1) (hcl : zKd a = (zzM y').2.2.2.2.1) (h99 : (zzM y').2.2.2.2.1 ≠ 99) (he : zzIn y' (.ref a :: as.reverse) = lsn) (hlen : (zzEnt (.ref a :: as.reverse)).length ≤ (zzM y').2.2.1) (hcat : zzCat rest ≤ 8) (hc : zzEv d y' 0 lsn [] (zK J) (v, Z')) (hp : pc + 3 = pc') (kk : zzEv (d + 1) y pc' ls (v.toList ++ rest) Z' r) : zzEv (d + 1) y pc ls (as ++ .ref a :: rest) (zK J) r := by
  subst hp
  subst he
  have e : as ++ Value.ref a :: rest = (as ++ [Value.ref a]) ++ rest := by simp
  rw [e]
  have hrv : (as ++ [Value.ref a]).reverse = Value.ref a :: as.reverse := by simp
  have hz : (zK J).1[a]? = some ((zzM y').2.2.2.2.1, zSz a) := zKd_get hcl h99
  refine ev_call0 (as := .ref a :: as.reverse) h rfl ?_ hc kk
  unfold zzInv
  rw [show zzIk (.invokevirtual i, 3) = some (i, 2) from rfl]
  dsimp only
  rw [hm]
  dsimp only
  have hr2 : zzRcv 2 y' (.ref a :: as.reverse) (zK J) = true := by
    unfold zzRcv
    dsimp only
    rw [hz]
    simp
  rw [hn, List.take_left' (by simp), List.drop_left' (by simp), hrv, if_pos ⟨by simp, hcat, hlen, Or.inr (Or.inl ⟨rfl, rfl, hr2⟩)⟩]
end ZEW
