/-! orders: their list, the next one -/
def zLk (F : Nat → List Nat → List (List Nat)) (mask : Nat) (pi : List Nat) : Nat → Nat → List (List Nat)
  | _, 0 => []
  | k, e + 1 => (if mask / 2 ^ k % 2 = 0 then F (mask + 2 ^ k) (pi ++ [k]) else []) ++ zLk F mask pi (k + 1) e
def zLv (b : Nat) : Nat → Nat → List Nat → List (List Nat)
  | 0, _, pi => [pi]
  | r + 1, mask, pi => zLk (zLv b r) mask pi 0 b
def zN7 (f : Nat → Nat) : Nat → Option Nat
  | 0 => none
  | j + 1 => if f (j + 1) < f j then zN7 f j else some j
def zN5 (f : Nat → Nat) (i : Nat) : Nat → Nat
  | 0 => 0
  | j + 1 => if i < j + 1 then (if f (j + 1) < f i then zN5 f i j else j + 1) else j + 1
def zSwp (f : Nat → Nat) (i j : Nat) : Nat → Nat := fun x => if x = j then f i else if x = i then f j else f x
def zN9 : Nat → (Nat → Nat) → Nat → Nat → (Nat → Nat)
  | 0, f, _, _ => f
  | u + 1, f, l, r => if l < r then zN9 u (zSwp f l r) (l + 1) (r - 1) else f
def zNx (f : Nat → Nat) (b : Nat) : Option (Nat → Nat) := match zN7 f (b - 1) with
  | none => none
  | some i => some (zN9 b (zSwp f i (zN5 f i (b - 1))) (i + 1) (b - 1))
def zLf (l : List Nat) : Nat → Nat := fun i => l.getD i 0
def zNl (b : Nat) (l : List Nat) : Option (List Nat) := (zNx (zLf l) b).map (fun f => (List.range b).map f)
def zChn (b : Nat) : List (List Nat) → Bool
  | [] => true
  | [p] => (zNl b p).isNone
  | p :: q :: r => decide (zNl b p = some q) && zChn b (q :: r)
def zOkl (b : Nat) (p : List Nat) : Bool := decide (p.length = b) && p.all (fun k => decide (k < b))
def zLL (b : Nat) : List (List Nat) := zLv b b 0 []
theorem LL_ok : ∀ b, b < 7 → 0 < b → (zChn b (zLL b) && (zLL b).all (zOkl b) && decide ((zLL b).head? = some (List.range b)) && decide ((zLL b).length ≤ 720)) = true := by decide +kernel
section OR
variable {J J1 J2 : zzJ} {b i j : Nat} {f : Nat → Nat}
abbrev zRow (J : zzJ) (b : Nat) (f : Nat → Nat) : Prop := ∀ i, i < b → J.2 36 i = nI (f i)
theorem zN7_lt : ∀ (j i : Nat), zN7 f j = some i → i < j := by
  intro j
  induction j with
  | zero => intro i h; cases h
  | succ j ih =>
    intro i h
    rw [zN7] at h
    split at h
    · have := ih i h; omega
    · cases h; omega
theorem zN5_le : ∀ (j : Nat), zN5 f i j ≤ j := by
  intro j
  induction j with
  | zero => exact Nat.le_refl 0
  | succ j ih =>
    rw [zN5]
    split
    · split
      · omega
      · omega
    · omega
theorem o_it (h : zRow J b f) (hb : b ≤ 6) (hi : i < b) : F_X6_itemAt 36 (nI i) J = some (nI (f i), J) := by
  rw [b_it (z := 6) rfl rfl (by omega) (by omega), h i hi]
theorem o_swap (h : zRow J b f) (hb : b ≤ 6) (hi : i < b) (hj : j < b) : ∃ J1, F_X1_swapPlaces (nI i) (nI j) J = some J1 ∧ zRow J1 b (zSwp f i j) ∧ J1.1 = J.1 ∧ ∀ c, c ≠ 36 → J1.2 c = J.2 c := by
  refine ⟨wI (wI J 36 i (nI (f j))) 36 j (nI (f i)), ?_, fun x hx => ?_, rfl, fun c hc => by rw [wI_ne hc, wI_ne hc]⟩
  · unfold F_X1_swapPlaces
    rw [o_it h hb hi, Option.bind_some]
    dsimp only
    rw [o_it h hb hj, Option.bind_some]
    dsimp only
    rw [b_pt (z := 6) rfl rfl (by omega) (by omega), Option.bind_some, b_pt (z := 6) rfl rfl (by omega) (by omega)]
    rfl
  · rw [wI_g, wI_g]
    unfold zSwp
    by_cases h1 : x = j
    · rw [if_pos h1, if_pos h1]
    · rw [if_neg h1, if_neg h1]
      by_cases h2 : x = i
      · rw [if_pos h2, if_pos h2]
      · rw [if_neg h2, if_neg h2]; exact h x hx
theorem o_99 (hb : b ≤ 6) : ∀ (u l r fu : Nat) (f : Nat → Nat) (J : zzJ), zRow J b f → r < b → l ≤ b → r ≤ l + u → u < fu → ∃ J1, F_X1_nextOrder_99 fu (nI l) (nI r) J = some (1, J1) ∧ zRow J1 b (zN9 u f l r) ∧ J1.1 = J.1 ∧ ∀ c, c ≠ 36 → J1.2 c = J.2 c := by
  intro u
  induction u with
  | zero =>
    intro l r fu f J h hr hl hle hf
    obtain ⟨fu, rfl⟩ : ∃ q, fu = q + 1 := ⟨fu - 1, by omega⟩
    refine ⟨J, ?_, h, rfl, fun _ _ => rfl⟩
    rw [F_X1_nextOrder_99, if_neg (fun q => by have := (i_lts (by omega) (by omega)).1 q; omega)]
  | succ u ih =>
    intro l r fu f J h hr hl hle hf
    obtain ⟨fu, rfl⟩ : ∃ q, fu = q + 1 := ⟨fu - 1, by omega⟩
    by_cases hlr : l < r
    · obtain ⟨J2, e2, r2, a2, b2⟩ := o_swap h hb (show l < b by omega) hr
      obtain ⟨J3, e3, r3, a3, b3⟩ := ih (l + 1) (r - 1) fu (zSwp f l r) J2 r2 (by omega) (by omega) (by omega) (by omega)
      obtain ⟨r', rfl⟩ : ∃ q, r = q + 1 := ⟨r - 1, by omega⟩
      refine ⟨J3, ?_, ?_, a3.trans a2, fun c hc => (b3 c hc).trans (b2 c hc)⟩
      · rw [F_X1_nextOrder_99, if_pos ((i_lts (by omega) (by omega)).2 hlr), e2, Option.bind_some, ← nI_succ, pk_m1]
        exact e3
      · rw [zN9, if_pos hlr]; exact r3
    · refine ⟨J, ?_, ?_, rfl, fun _ _ => rfl⟩
      · rw [F_X1_nextOrder_99, if_neg (fun q => hlr ((i_lts (by omega) (by omega)).1 q))]
      · rw [zN9, if_neg hlr]; exact h
theorem o_51 (hb : b ≤ 6) (h : zRow J b f) (hv : ∀ i, i < b → f i < 100) (hi : i < b) : ∀ (j fu : Nat), j < b → j < fu → F_X1_nextOrder_51 fu (nI i) (nI j) J = F_X1_nextOrder_81 (nI i) (nI (zN5 f i j)) J := by
  intro j
  induction j with
  | zero =>
    intro fu hj hf
    obtain ⟨fu, rfl⟩ : ∃ q, fu = q + 1 := ⟨fu - 1, by omega⟩
    rw [F_X1_nextOrder_51, if_neg (fun q => by have := (i_lts (by omega) (by omega)).1 q; omega)]
    rfl
  | succ j ih =>
    intro fu hj hf
    obtain ⟨fu, rfl⟩ : ∃ q, fu = q + 1 := ⟨fu - 1, by omega⟩
    rw [F_X1_nextOrder_51, zN5]
    by_cases hij : i < j + 1
    · have v1 := hv i hi
      have v2 := hv (j + 1) hj
      rw [if_pos ((i_lts (by omega) (by omega)).2 hij), if_pos hij, o_it h hb hj, Option.bind_some]
      dsimp only
      rw [o_it h hb hi, Option.bind_some]
      dsimp only
      by_cases hf : f (j + 1) < f i
      · rw [if_pos ((i_lts (by omega) (by omega)).2 hf), if_pos hf, pk_m1]
        exact ih fu (by omega) (by omega)
      · rw [if_neg (fun q => hf ((i_lts (by omega) (by omega)).1 q)), if_neg hf]
    · rw [if_neg (fun q => hij ((i_lts (by omega) (by omega)).1 q)), if_neg hij]
theorem o_7 (hb : b ≤ 6) (h : zRow J b f) (hv : ∀ i, i < b → f i < 100) : ∀ (j fu : Nat), j < b → j < fu → F_X1_nextOrder_7 fu (nI j - 1) J = match zN7 f j with
    | none => some (0, J)
    | some i => F_X1_nextOrder_51 4096 (nI i) (J.2 33 3 - 1) J := by
  intro j
  induction j with
  | zero =>
    intro fu hj hf
    obtain ⟨fu, rfl⟩ : ∃ q, fu = q + 1 := ⟨fu - 1, by omega⟩
    rw [F_X1_nextOrder_7, if_pos (by decide)]
    unfold F_X1_nextOrder_38
    rw [if_pos (by decide)]
    rfl
  | succ j ih =>
    intro fu hj hf
    obtain ⟨fu, rfl⟩ : ∃ q, fu = q + 1 := ⟨fu - 1, by omega⟩
    have v1 := hv j (by omega)
    have v2 := hv (j + 1) hj
    have nn : ¬ nI j < (0 : Int32) := by rw [i_lt, i_nI (by omega)]; show ¬ (j : Int) < 0; omega
    rw [F_X1_nextOrder_7, nI_pred, if_neg nn, o_it h hb (by omega), Option.bind_some]
    dsimp only
    rw [nI_1, o_it h hb hj, Option.bind_some]
    dsimp only
    rw [zN7]
    by_cases hf : f (j + 1) < f j
    · rw [if_pos ((i_lts (by omega) (by omega)).2 hf), if_pos hf, i_sub1]
      exact ih fu (by omega) (by omega)
    · rw [if_neg (fun q => hf ((i_lts (by omega) (by omega)).1 q)), if_neg hf]
      unfold F_X1_nextOrder_38
      rw [if_neg nn]
theorem t_next (hb : b ≤ 6) (hb0 : 0 < b) (h3 : J.2 33 3 = nI b) (h : zRow J b f) (hv : ∀ i, i < b → f i < 100) : (zNx f b = none ∧ F_X1_nextOrder J = some (0, J)) ∨ ∃ f' J1, zNx f b = some f' ∧ F_X1_nextOrder J = some (1, J1) ∧ zRow J1 b f' ∧ J1.1 = J.1 ∧ ∀ c, c ≠ 36 → J1.2 c = J.2 c := by
  obtain ⟨k, rfl⟩ : ∃ k, b = k + 1 := ⟨b - 1, by omega⟩
  have e2 : J.2 33 3 - 2 = nI k - 1 := by
    rw [h3, show (2 : Int32) = nI 2 from rfl, show (1 : Int32) = nI 1 from rfl]
    apply i_eq.2
    rw [pk_sub_toInt (by omega) (by omega), pk_sub_toInt (by omega) (by omega)]
    omega
  have e7 := o_7 (J := J) hb h hv k 4096 (by omega) (by omega)
  unfold F_X1_nextOrder
  rw [e2, e7]
  unfold zNx
  rw [Nat.add_sub_cancel]
  cases hz : zN7 f k with
  | none => exact Or.inl ⟨rfl, rfl⟩
  | some i =>
    right
    have hi := zN7_lt k i hz
    have hj := zN5_le (f := f) (i := i) k
    dsimp only
    rw [h3, nI_pred, o_51 hb h hv (by omega) k 4096 (by omega) (by omega)]
    obtain ⟨J2, e3, r2, a2, b2⟩ := o_swap h hb (show i < k + 1 by omega) (show zN5 f i k < k + 1 by omega)
    obtain ⟨J3, e4, r3, a3, b3⟩ := o_99 hb (k + 1) (i + 1) k 4096 _ J2 r2 (by omega) (by omega) (by omega) (by omega)
    refine ⟨_, J3, rfl, ?_, r3, a3.trans a2, fun c hc => (b3 c hc).trans (b2 c hc)⟩
    unfold F_X1_nextOrder_81
    rw [e3, Option.bind_some, b2 33 (by omega), h3, nI_pred, nI_1]
    exact e4
end OR
