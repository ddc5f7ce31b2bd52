/-! the program as a function on a memory of numbers: what one instruction does, what a method does -/
/-- the cells' kinds and sizes (0 to 7: an object of that class; 8 ints, 9 booleans, 10 sheets), what each place holds: a reference, a long, an int -/
abbrev zzH : Type := List (Nat × Nat) × (Nat → Nat → Option Nat) × (Nat → Nat → Int64) × (Nat → Nat → Int32)
abbrev zzS : Type := Nat × List Value × List Value × zzH
abbrev zzIx (i : Int32) (n : Nat) : Prop := ¬ (i < 0 ∨ n ≤ i.toNatClampNeg)
def zzUp {α : Type} (f : Nat → Nat → α) (a k : Nat) (v : α) : Nat → Nat → α := fun x j => if x = a ∧ j = k then v else f x j
def zzRo {α : Type} (f : Nat → Nat → α) (a : Nat) (g : Nat → α) : Nat → Nat → α := fun x j => if x = a then g j else f x j
/-- a place of the locals of which nothing is known -/
def zzU : Value := .retAddr 0
def zzIs (t : Nat) (v : Value) : Bool := match t, v with
  | 1, .int _ => true
  | 2, .long _ => true
  | 3, .ref _ => true
  | 3, .null => true
  | _, _ => false
def zzLd (il : Instr × Nat) : Option (Nat × Nat) := match il with
  | (.iload i, 2) => some (i, 1)
  | (.iload_n k, 1) => some (k.val, 1)
  | (.lload i, 2) => some (i, 2)
  | (.lload_n k, 1) => some (k.val, 2)
  | (.aload i, 2) => some (i, 3)
  | (.aload_n k, 1) => some (k.val, 3)
  | _ => none
def zzSd (il : Instr × Nat) : Option (Nat × Nat) := match il with
  | (.istore i, 2) => some (i, 1)
  | (.istore_n k, 1) => some (k.val, 1)
  | (.lstore i, 2) => some (i, 2)
  | (.lstore_n k, 1) => some (k.val, 2)
  | (.astore i, 2) => some (i, 3)
  | (.astore_n k, 1) => some (k.val, 3)
  | _ => none
def zzPush (own : Nat) (il : Instr × Nat) : Option Value := match il with
  | (.iconst n, 1) => some (.int (Int32.ofInt n))
  | (.bipush n, 2) => some (.int (Int8.ofInt n).toInt32)
  | (.sipush n, 3) => some (.int (Int16.ofInt n).toInt32)
  | (.lconst n, 1) => some (.long (Int64.ofNat n.val))
  | (.aconst_null, 1) => some .null
  | (.ldc i, 2) => (match zzGet zzKS own i with
    | some k => some (.ref (1000 + k))
    | none => (zzGet zzKI own i).map .int)
  | (.ldc_w i, 3) => (zzGet zzKI own i).map .int
  | (.ldc2_w i, 3) => (zzGet zzKL own i).map .long
  | _ => none
/-- is a long ahead of that place -/
def zzLg (ls : List Value) (i : Nat) : Bool := match i with
  | 0 => false
  | j + 1 => (match ls[j]? with
    | some v => v.category == 2
    | none => false)
def zzSet (ls : List Value) (i t : Nat) (v : Value) : Option (List Value) :=
  if zzLg ls i = true then none
  else if t = 2 then (if i + 1 < ls.length then some ((ls.set i v).set (i + 1) zzU) else none)
  else if i < ls.length then some (ls.set i v) else none
def zzBi (il : Instr × Nat) : Option (Int32 → Int32 → Int32) := match il with
  | (.iadd, 1) => some (fun x y => x + y)
  | (.isub, 1) => some (fun x y => x - y)
  | (.imul, 1) => some (fun x y => x * y)
  | (.iand, 1) => some (fun x y => x &&& y)
  | (.ior, 1) => some (fun x y => x ||| y)
  | (.ishl, 1) => some (fun x y => x <<< (y &&& 31))
  | (.ishr, 1) => some (fun x y => x >>> (y &&& 31))
  | (.iushr, 1) => some (fun x y => (x.toUInt32 >>> (y.toUInt32 &&& Int32.toUInt32 31)).toInt32)
  | _ => none
def zzDi (il : Instr × Nat) : Option (Int32 → Int32 → Int32) := match il with
  | (.idiv, 1) => some (fun x y => x / y)
  | (.irem, 1) => some (fun x y => x - x / y * y)
  | _ => none
def zzUn (il : Instr × Nat) : Option (Int32 → Int32) := match il with
  | (.ineg, 1) => some (fun x => -x)
  | (.i2b, 1) => some (fun x => x.toInt8.toInt32)
  | (.i2s, 1) => some (fun x => x.toInt16.toInt32)
  | _ => none
def zzBl (il : Instr × Nat) : Option (Int64 → Int64 → Int64) := match il with
  | (.ladd, 1) => some (fun x y => x + y)
  | (.lsub, 1) => some (fun x y => x - y)
  | (.lmul, 1) => some (fun x y => x * y)
  | _ => none
def zzDl (il : Instr × Nat) : Option (Int64 → Int64 → Int64) := match il with
  | (.ldiv, 1) => some (fun x y => x / y)
  | (.lrem, 1) => some (fun x y => x - x / y * y)
  | _ => none
def zzCm (c : Jvm.ClassFile.Cond) (x y : Int32) : Bool := match c with
  | .eq => decide (x = y)
  | .ne => decide (¬ x = y)
  | .lt => decide (x < y)
  | .ge => decide (y ≤ x)
  | .gt => decide (y < x)
  | .le => decide (x ≤ y)
def zzTg (pc : Nat) (off : Int) : Option Nat := if 0 ≤ (pc : Int) + off then some ((pc : Int) + off).toNat else none
def zzFv (Z : zzH) (c a k : Nat) : Value := match zzT c k with
  | 3 => va_rf (Z.2.1 a k)
  | 2 => .long (Z.2.2.1 a k)
  | _ => .int (Z.2.2.2 a k)
def zzPut (Z : zzH) (c a k : Nat) (v : Value) : Option zzH := match zzT c k, v with
  | 0, .int x => some (Z.1, Z.2.1, Z.2.2.1, zzUp Z.2.2.2 a k x)
  | 1, .int x => if x = 0 ∨ x = 1 then some (Z.1, Z.2.1, Z.2.2.1, zzUp Z.2.2.2 a k x) else none
  | 2, .long x => some (Z.1, Z.2.1, zzUp Z.2.2.1 a k x, Z.2.2.2)
  | 3, .ref x => if x < 1000 then some (Z.1, zzUp Z.2.1 a k (some x), Z.2.2.1, Z.2.2.2) else none
  | 3, .null => some (Z.1, zzUp Z.2.1 a k none, Z.2.2.1, Z.2.2.2)
  | _, _ => none
def zzNew (Z : zzH) (c n : Nat) : zzH := (Z.1 ++ [(c, n)], zzRo Z.2.1 Z.1.length (fun _ => none), zzRo Z.2.2.1 Z.1.length (fun _ => 0), zzRo Z.2.2.2 Z.1.length (fun _ => 0))
def zzCat (st : List Value) : Nat := (st.map fun v => v.category).sum
def zzTx (k : Nat) : List Nat := zzKc.getD k []
/-- fields, arrays, what is made -/
def zzMem (own : Nat) (ini : Bool) (pc : Nat) (il : Instr × Nat) (ls st : List Value) (Z : zzH) : Option zzS := match il with
  | (.getfield i, 3) => (match st with
    | .ref a :: st => (match zzGet zzFL own i, Z.1[a]? with
      | some (c, k), some q => if q.1 = c then some (pc + 3, ls, zzFv Z c a k :: st, Z) else none
      | _, _ => none)
    | _ => none)
  | (.putfield i, 3) => (match st with
    | v :: .ref a :: st => (match zzGet zzFL own i, Z.1[a]? with
      | some (c, k), some q => if q.1 = c ∧ (zzFin c k = false ∨ (ini = true ∧ own = c)) then (zzPut Z c a k v).map (fun Z' => (pc + 3, ls, st, Z')) else none
      | _, _ => none)
    | _ => none)
  | (.iaload, 1) => (match st with
    | .int i :: .ref a :: st => if a = 2000 then (if zzIx i (Z.2.2.1 2000 0).toNatClampNeg then some (pc + 1, ls, .int (Z.2.2.2 2000 i.toNatClampNeg) :: st, Z) else none) else (match Z.1[a]? with
      | some q => if q.1 = 8 ∧ zzIx i q.2 then some (pc + 1, ls, .int (Z.2.2.2 a i.toNatClampNeg) :: st, Z) else none
      | _ => none)
    | _ => none)
  | (.iastore, 1) => (match st with
    | .int x :: .int i :: .ref a :: st => (match Z.1[a]? with
      | some q => if q.1 = 8 ∧ zzIx i q.2 then some (pc + 1, ls, st, (Z.1, Z.2.1, Z.2.2.1, zzUp Z.2.2.2 a i.toNatClampNeg x)) else none
      | _ => none)
    | _ => none)
  | (.baload, 1) => (match st with
    | .int i :: .ref a :: st => (match Z.1[a]? with
      | some q => if q.1 = 9 ∧ zzIx i q.2 then some (pc + 1, ls, .int (Z.2.2.2 a i.toNatClampNeg) :: st, Z) else none
      | _ => none)
    | _ => none)
  | (.bastore, 1) => (match st with
    | .int x :: .int i :: .ref a :: st => (match Z.1[a]? with
      | some q => if q.1 = 9 ∧ zzIx i q.2 ∧ (x = 0 ∨ x = 1) then some (pc + 1, ls, st, (Z.1, Z.2.1, Z.2.2.1, zzUp Z.2.2.2 a i.toNatClampNeg x)) else none
      | _ => none)
    | _ => none)
  | (.aaload, 1) => (match st with
    | .int i :: .ref a :: st => (match Z.1[a]? with
      | some q => if q.1 = 10 ∧ zzIx i q.2 then some (pc + 1, ls, va_rf (Z.2.1 a i.toNatClampNeg) :: st, Z) else none
      | _ => none)
    | _ => none)
  | (.aastore, 1) => (match st with
    | .ref v :: .int i :: .ref a :: st => (match Z.1[a]?, Z.1[v]? with
      | some q, some w => if q.1 = 10 ∧ w.1 = 4 ∧ zzIx i q.2 then some (pc + 1, ls, st, (Z.1, zzUp Z.2.1 a i.toNatClampNeg (some v), Z.2.2.1, Z.2.2.2)) else none
      | _, _ => none)
    | _ => none)
  | (.arraylength, 1) => (match st with
    | .ref a :: st => if a = 2000 then (if Z.2.2.1 2000 0 < 0 then none else some (pc + 1, ls, .int (Int32.ofNat (Z.2.2.1 2000 0).toNatClampNeg) :: st, Z)) else (match Z.1[a]? with
      | some q => if 8 ≤ q.1 then some (pc + 1, ls, .int (Int32.ofNat q.2) :: st, Z) else none
      | _ => none)
    | _ => none)
  | (.new i, 3) => (match zzGet zzCL own i with
    | some c => if Z.1.length < 1000 then some (pc + 3, ls, .ref Z.1.length :: st, zzNew Z c (zzN c)) else none
    | none => none)
  | (.newarray .int, 2) => (match st with
    | .int n :: st => if Z.1.length < 1000 ∧ ¬ n < 0 ∧ n.toNatClampNeg ≤ 100000 then some (pc + 2, ls, .ref Z.1.length :: st, zzNew Z 8 n.toNatClampNeg) else none
    | _ => none)
  | (.newarray .boolean, 2) => (match st with
    | .int n :: st => if Z.1.length < 1000 ∧ ¬ n < 0 ∧ n.toNatClampNeg ≤ 100000 then some (pc + 2, ls, .ref Z.1.length :: st, zzNew Z 9 n.toNatClampNeg) else none
    | _ => none)
  | (.anewarray i, 3) => (match st with
    | .int n :: st => if Z.1.length < 1000 ∧ ¬ n < 0 ∧ n.toNatClampNeg ≤ 100000 ∧ zzGet zzCL own i = some 4 then some (pc + 3, ls, .ref Z.1.length :: st, zzNew Z 10 n.toNatClampNeg) else none
    | _ => none)
  | _ => none
/-- what is not walked: Object's constructor, arraycopy, the two methods of a text -/
def zzPrim (own : Nat) (pc : Nat) (il : Instr × Nat) (ls st : List Value) (Z : zzH) : Option zzS := match il with
  | (.invokespecial i, 3) => (match zzGet zzML own i, st with
    | some (4, _), .ref _ :: st => if zzCat st ≤ 8 then some (pc + 3, ls, st, Z) else none
    | _, _ => none)
  | (.invokestatic i, 3) => (match zzGet zzML own i, st with
    | some (5, _), .int n :: .int dp :: .ref a :: .int sp :: .ref b :: st => (match Z.1[a]?, Z.1[b]? with
      | some q, some w => if zzCat st ≤ 8 ∧ q.1 = 8 ∧ w.1 = 8 ∧ ¬ sp < 0 ∧ ¬ dp < 0 ∧ ¬ n < 0 ∧ sp.toNatClampNeg + n.toNatClampNeg ≤ w.2 ∧ dp.toNatClampNeg + n.toNatClampNeg ≤ q.2 then
          some (pc + 3, ls, st, (Z.1, Z.2.1, Z.2.2.1, zzRo Z.2.2.2 a (va_cpy (Z.2.2.2 b) (Z.2.2.2 a) sp.toNatClampNeg dp.toNatClampNeg n.toNatClampNeg))) else none
      | _, _ => none)
    | _, _ => none)
  | (.invokevirtual i, 3) => (match zzGet zzML own i, st with
    | some (6, _), .ref a :: st => if 1000 ≤ a ∧ a < 1013 ∧ zzCat st ≤ 8 then some (pc + 3, ls, .int (Int32.ofNat (zzTx (a - 1000)).length) :: st, Z) else none
    | some (7, _), .int i :: .ref a :: st => if 1000 ≤ a ∧ a < 1013 ∧ zzCat st ≤ 8 ∧ zzIx i (zzTx (a - 1000)).length then some (pc + 3, ls, .int (Int32.ofNat ((zzTx (a - 1000)).getD i.toNatClampNeg 0)) :: st, Z) else none
    | _, _ => none)
  | _ => none
def zzFlow (pc : Nat) (il : Instr × Nat) (ls st : List Value) (Z : zzH) : Option zzS := match il with
  | (.goto off, 3) => (zzTg pc off).map (fun t => (t, ls, st, Z))
  | (.if_icmp c off, 3) => (match st, zzTg pc off with
    | .int y :: .int x :: st, some t => some (if zzCm c x y = true then t else pc + 3, ls, st, Z)
    | _, _ => none)
  | (.ifCond c off, 3) => (match st, zzTg pc off with
    | .int x :: st, some t => some (if zzCm c x 0 = true then t else pc + 3, ls, st, Z)
    | _, _ => none)
  | (.ifnull off, 3) => (match st, zzTg pc off with
    | .ref _ :: st, some _ => some (pc + 3, ls, st, Z)
    | .null :: st, some t => some (t, ls, st, Z)
    | _, _ => none)
  | (.ifnonnull off, 3) => (match st, zzTg pc off with
    | .ref _ :: st, some t => some (t, ls, st, Z)
    | .null :: st, some _ => some (pc + 3, ls, st, Z)
    | _, _ => none)
  | (.tableswitch df lo hi offs, _) => (match st with
    | .int x :: st => if x.toInt < lo ∨ hi < x.toInt then (zzTg pc df).map (fun t => (t, ls, st, Z)) else (match offs[(x.toInt - lo).toNat]? with
      | some off => (zzTg pc off).map (fun t => (t, ls, st, Z))
      | none => none)
    | _ => none)
  | (.lookupswitch df ps, _) => (match st with
    | .int x :: st => if (ps.toList.zip (ps.toList.drop 1)).all (fun (a, next) => a.1 < next.1) = true then (zzTg pc (Op.lookupswitch.offset ps.toList df x.toInt)).map (fun t => (t, ls, st, Z)) else none
    | _ => none)
  | (.iinc i n, 3) => (match ls[i]? with
    | some (.int x) => (zzSet ls i 1 (.int (x + Int32.ofInt n))).map (fun ls' => (pc + 3, ls', st, Z))
    | _ => none)
  | (.dup, 1) => (match st with
    | v :: st => if v.category = 1 then some (pc + 1, ls, v :: v :: st, Z) else none
    | _ => none)
  | (.pop, 1) => (match st with
    | v :: st => if v.category = 1 then some (pc + 1, ls, st, Z) else none
    | _ => none)
  | (.dup2, 1) => (match st with
    | v :: w :: st => if v.category = 1 ∧ w.category = 1 then some (pc + 1, ls, v :: w :: v :: w :: st, Z) else none
    | _ => none)
  | (.i2l, 1) => (match st with
    | .int x :: st => some (pc + 1, ls, .long x.toInt64 :: st, Z)
    | _ => none)
  | (.l2i, 1) => (match st with
    | .long x :: st => some (pc + 1, ls, .int x.toInt32 :: st, Z)
    | _ => none)
  | (.lcmp, 1) => (match st with
    | .long y :: .long x :: st => some (pc + 1, ls, .int (lg_cmp x y) :: st, Z)
    | _ => none)
  | _ => none
def zzAr (pc : Nat) (il : Instr × Nat) (ls st : List Value) (Z : zzH) : Option zzS := match st with
  | .int y :: .int x :: st => (match zzBi il, zzDi il, zzUn il with
    | some f, _, _ => some (pc + 1, ls, .int (f x y) :: st, Z)
    | _, some f, _ => if y = 0 then none else some (pc + 1, ls, .int (f x y) :: st, Z)
    | _, _, some f => some (pc + 1, ls, .int (f y) :: .int x :: st, Z)
    | _, _, _ => none)
  | .int y :: st => (match zzUn il with
    | some f => some (pc + 1, ls, .int (f y) :: st, Z)
    | _ => none)
  | .long y :: .long x :: st => (match zzBl il, zzDl il with
    | some f, _ => some (pc + 1, ls, .long (f x y) :: st, Z)
    | _, some f => if y = 0 then none else some (pc + 1, ls, .long (f x y) :: st, Z)
    | _, _ => none)
  | _ => none
/-- one instruction that is neither a call nor a return -/
def zzStep (own : Nat) (ini : Bool) (pc : Nat) (il : Instr × Nat) (ls st : List Value) (Z : zzH) : Option zzS :=
  match zzPush own il with
  | some v => some (pc + il.2, ls, v :: st, Z)
  | none =>
  match zzLd il with
  | some (i, t) => (match ls[i]? with
    | some v => if zzIs t v = true then some (pc + il.2, ls, v :: st, Z) else none
    | none => none)
  | none =>
  match zzSd il with
  | some (i, t) => (match st with
    | v :: st => if zzIs t v = true then (zzSet ls i t v).map (fun ls' => (pc + il.2, ls', st, Z)) else none
    | [] => none)
  | none =>
  match zzAr pc il ls st Z with
  | some r => some r
  | none =>
  match zzFlow pc il ls st Z with
  | some r => some r
  | none =>
  match zzMem own ini pc il ls st Z with
  | some r => some r
  | none => zzPrim own pc il ls st Z
def zzLk (l : List (Nat × Instr × Nat)) (pc : Nat) : Option (Instr × Nat) := match l with
  | [] => none
  | q :: l => if q.1 = pc then some q.2 else zzLk l pc
theorem zzLk_mem {l : List (Nat × Instr × Nat)} {pc : Nat} {il : Instr × Nat} (h : zzLk l pc = some il) : (pc, il) ∈ l := by
  induction l with
  | nil => cases h
  | cons q l ih =>
    obtain ⟨x, w⟩ := q
    unfold zzLk at h
    split at h
    · next c =>
      dsimp only at c
      subst c
      cases h
      exact List.mem_cons_self
    · exact List.mem_cons_of_mem _ (ih h)
/-- a return: what is answered -/
def zzRet (ret : Option FieldType) (il : Instr × Nat) (st : List Value) : Option (Option Value) := match il, st, ret with
  | (.ireturn, 1), [.int v], some .int => some (some (.int v))
  | (.ireturn, 1), [.int v], some .boolean => if v = 0 ∨ v = 1 then some (some (.int v)) else none
  | (.lreturn, 1), [.long v], some .long => some (some (.long v))
  | (.areturn, 1), [.ref v], some (.object _) => some (some (.ref v))
  | (.areturn, 1), [.null], some (.object _) => some (some .null)
  | (.return_, 1), [], none => some none
  | _, _, _ => none
/-- a method's locals at its entry -/
def zzEnt : List Value → List Value
  | [] => []
  | v :: vs => if v.category = 2 then v :: zzU :: zzEnt vs else v :: zzEnt vs
def zzIn (y : Nat) (as : List Value) : List Value := zzEnt as ++ List.replicate ((zzM y).2.2.1 - (zzEnt as).length) zzU
def zzIk (il : Instr × Nat) : Option (Nat × Nat) := match il with
  | (.invokestatic i, 3) => some (i, 0)
  | (.invokevirtual i, 3) => some (i, 2)
  | (.invokespecial i, 3) => some (i, 3)
  | _ => none
/-- the receiver, of the class that the method wants (kind 2), or any object (kind 3) -/
def zzRcv (kd y : Nat) (as : List Value) (Z : zzH) : Bool := match as with
  | .ref a :: _ => kd == 3 || (match Z.1[a]? with
    | some q => q.1 == (zzM y).2.2.2.2.1
    | none => false)
  | _ => false
/-- a call: the method, its arguments, what stays on the stack -/
def zzInv (own : Nat) (il : Instr × Nat) (st : List Value) (Z : zzH) : Option (Nat × List Value × List Value) := match zzIk il with
  | none => none
  | some (i, md) => (match zzGet zzML own i with
    | none => none
    | some (kd, y) => if (zzM y).2.2.2.2.2.1 ≤ st.length ∧ zzCat (st.drop (zzM y).2.2.2.2.2.1) ≤ 8 ∧ (zzEnt (st.take (zzM y).2.2.2.2.2.1).reverse).length ≤ (zzM y).2.2.1 ∧ ((md = 0 ∧ kd ≤ 1) ∨ (md = 2 ∧ kd = 2 ∧ zzRcv 2 y (st.take (zzM y).2.2.2.2.2.1).reverse Z = true) ∨ (md = 3 ∧ kd = 3 ∧ zzRcv 3 y (st.take (zzM y).2.2.2.2.2.1).reverse Z = true)) then some (y, (st.take (zzM y).2.2.2.2.2.1).reverse, st.drop (zzM y).2.2.2.2.2.1) else none)
def zzExec : Nat → Nat → Nat → Nat → List Value → List Value → zzH → Option (Option Value × zzH)
  | 0, _, _, _, _, _, _ => none
  | n + 1, d, y, pc, ls, st, Z =>
    match zzLk (zzM y).2.2.2.2.2.2.2 pc with
    | none => none
    | some il =>
      match zzRet (zzM y).2.2.2.1 il st with
      | some r => some (r, Z)
      | none =>
        match zzInv (zzM y).2.2.2.2.1 il st Z with
        | some (y', as, rest) =>
          (match d with
          | 0 => none
          | d' + 1 =>
            (match zzExec n d' y' 0 (zzIn y' as) [] Z with
            | none => none
            | some (r, Z') => zzExec n (d' + 1) y (pc + 3) ls (r.toList ++ rest) Z'))
        | none =>
          match zzStep (zzM y).2.2.2.2.1 ((zzM y).2.2.2.2.2.2.1 == 2) pc il ls st Z with
          | none => none
          | some (pc', ls', st', Z') => zzExec n d y pc' ls' st' Z'
theorem zzExec_mono : ∀ (n k d y pc : Nat) (ls st : List Value) (Z : zzH) (r : Option Value × zzH), zzExec n d y pc ls st Z = some r → zzExec (n + k) d y pc ls st Z = some r := by
  intro n
  induction n with
  | zero => intro k d y pc ls st Z r h; simp [zzExec] at h
  | succ n ih =>
    intro k d y pc ls st Z r h
    rw [show n + 1 + k = (n + k) + 1 by omega]
    unfold zzExec at h ⊢
    cases h1 : zzLk (zzM y).2.2.2.2.2.2.2 pc with
    | none => rw [h1] at h; exact h
    | some il =>
      rw [h1] at h
      dsimp only at h ⊢
      cases h2 : zzRet (zzM y).2.2.2.1 il st with
      | some r => rw [h2] at h; exact h
      | none =>
        rw [h2] at h
        dsimp only at h ⊢
        cases h3 : zzInv (zzM y).2.2.2.2.1 il st Z with
        | some q =>
          obtain ⟨y', as, rest⟩ := q
          rw [h3] at h
          dsimp only at h ⊢
          cases d with
          | zero => exact h
          | succ d' =>
            dsimp only at h ⊢
            cases h4 : zzExec n d' y' 0 (zzIn y' as) [] Z with
            | none => rw [h4] at h; cases h
            | some q =>
              obtain ⟨v, Z'⟩ := q
              rw [h4] at h
              rw [ih k _ _ _ _ _ _ _ h4]
              exact ih k _ _ _ _ _ _ _ h
        | none =>
          rw [h3] at h
          dsimp only at h ⊢
          cases h4 : zzStep (zzM y).2.2.2.2.1 ((zzM y).2.2.2.2.2.2.1 == 2) pc il ls st Z with
          | none => rw [h4] at h; exact h
          | some q =>
            obtain ⟨pc', ls', st', Z'⟩ := q
            rw [h4] at h
            exact ih k _ _ _ _ _ _ _ h
