/-! some sit on told seats: arrangements -/
abbrev zHf (w : zVw) (s b : Nat) (P Q : Nat → Nat) : Prop := b ≤ 6 ∧ (∀ i, i < b → P i < s) ∧ (∀ i j, i < b → j < b → P i = P j → i = j) ∧ (∀ i, i < b → Q i < 24) ∧ (∀ i j, i < b → j < b → Q i = Q j → i = j) ∧ ∀ i, i < b → w 5 (Q i) = -1 ∨ ∃ j, j < b ∧ w 5 (Q i) = nI (P j)
abbrev zArr (w v : zVw) (s b : Nat) (P : Nat → Nat) (a : Nat → Int32) : Prop := (∀ r, r < 4 → v r = w r) ∧ (∀ i, i < b → v 4 (P i) = a i) ∧ (∀ j, (∀ i, i < b → P i ≠ j) → v 4 j = w 4 j) ∧ zGoodV v s
def zCv (P Q : Nat → Nat) : List Nat → Nat → zVw → zVw
  | [], _, v => v
  | k :: r, m, v => zCv P Q r (m + 1) (zMv v (P k) (nI (Q m)))
def zCa (Q : Nat → Nat) : List Nat → Nat → (Nat → Int32) → (Nat → Int32)
  | [], _, a => a
  | k :: r, m, a => zCa Q r (m + 1) (zUd a k (nI (Q m)))
def zSb (w : zVw) (P : Nat → Nat) : Nat → zVw
  | 0 => w
  | k + 1 => zMv (zSb w P k) (P k) (-1)
def zDg : List Nat → Int32 → Int32
  | [], d => d
  | k :: r, d => zDg r (10 * d + nI k + 1)
def zHs (V : List Nat → Int32) : List (List Nat) → Int32 × Int32 → Int32 × Int32
  | [], st => st
  | p :: r, st => zHs V r (if st.1 = 0 ∨ st.2 < V p then (zDg p 0, V p) else st)
section AR
variable {E : zEv2} {s t n : Nat} {J J1 J2 : zzJ} {w v v' : zVw} {b i j k m : Nat} {P Q : Nat → Nat} {a a' : Nat → Int32} {u : Int32}
theorem zHs_app {V : List Nat → Int32} : ∀ (l l' : List (List Nat)) (st : Int32 × Int32), zHs V (l ++ l') st = zHs V l' (zHs V l st) := by
  intro l
  induction l with
  | nil => intro l' st; rfl
  | cons p r ih => intro l' st; exact ih l' _
theorem zCv_snoc : ∀ (l : List Nat) (m k : Nat) (v : zVw), zCv P Q (l ++ [k]) m v = zMv (zCv P Q l m v) (P k) (nI (Q (m + l.length))) := by
  intro l
  induction l with
  | nil => intro m k v; rfl
  | cons p r ih =>
    intro m k v
    rw [List.cons_append, zCv, ih, zCv, List.length_cons, show m + 1 + r.length = m + (r.length + 1) by omega]
theorem zDg_snoc : ∀ (l : List Nat) (k : Nat) (d : Int32), zDg (l ++ [k]) d = 10 * zDg l d + nI k + 1 := by
  intro l
  induction l with
  | nil => intro k d; rfl
  | cons p r ih => intro k d; rw [List.cons_append, zDg, ih]; rfl
theorem zDg_pos : ∀ (l : List Nat) (d : Nat), (∀ k, k ∈ l → k < 9) → d < 10 ^ (9 - l.length) → l.length ≤ 8 → (l ≠ [] ∨ 0 < d) → ∃ e, 0 < e ∧ e < 10 ^ 9 ∧ zDg l (nI d) = nI e := by
  intro l
  induction l with
  | nil =>
    intro d _ hd _ h0
    exact ⟨d, h0.resolve_left (fun q => q rfl), by simpa using hd, rfl⟩
  | cons k r ih =>
    intro d hk hd hl _
    have hk1 := hk k List.mem_cons_self
    rw [List.length_cons] at hd hl
    have hp : 10 ^ (9 - r.length) = 10 * 10 ^ (9 - (r.length + 1)) := by rw [show 9 - r.length = (9 - (r.length + 1)) + 1 by omega, Nat.pow_succ, Nat.mul_comm]
    obtain ⟨e, h1, h2, h3⟩ := ih (10 * d + k + 1) (fun q hq => hk q (List.mem_cons_of_mem _ hq)) (by rw [hp]; omega) (by omega) (Or.inr (by omega))
    refine ⟨e, h1, h2, ?_⟩
    rw [zDg, show (10 : Int32) = nI 10 from rfl, pk_mul, nI_add, nI_1]
    exact h3
theorem arr_mv (hf : zHf w s b P Q) (h : zArr w v s b P a) (hi : i < b) (hu : zOpen v (P i) u) : zArr w (zMv v (P i) u) s b P (zUd a i u) := by
  obtain ⟨h0, h1, h2, h3⟩ := h
  refine ⟨fun r hr => (zMv_0 hr).trans (h0 r hr), fun j hj => ?_, fun j hj => ?_, zMv_good h3 (hf.2.1 i hi) hu⟩
  · rw [zMv_4]
    unfold zUd
    by_cases hji : j = i
    · rw [if_pos (by rw [hji]), if_pos hji]
    · rw [if_neg (fun e => hji (hf.2.2.1 j i hj hi e)), if_neg hji]; exact h1 j hj
  · rw [zMv_4, if_neg (fun e => hj i hi e.symm)]
    exact h2 j hj
theorem arr_open (gw : zGoodV w s) (hf : zHf w s b P Q) (h : zArr w v s b P a) (hk : k < b) (hm : m < b) (ha : ∀ i, i < b → i ≠ k → a i ≠ nI (Q m)) : zOpen v (P k) (nI (Q m)) := by
  have h8 := gw.1
  obtain ⟨h0, h1, h2, h3⟩ := h
  have hq := hf.2.2.2.1 m hm
  refine Or.inr ⟨Q m, hq, rfl, ?_⟩
  rcases h3.2.2.2 (Q m) hq with q | ⟨j, hj, e, e4⟩
  · exact Or.inl q
  · right
    rw [e]
    by_cases ht : ∃ i, i < b ∧ P i = j
    · obtain ⟨i, hi, rfl⟩ := ht
      by_cases hik : i = k
      · rw [hik]
      · rw [h1 i hi] at e4
        exact absurd e4 (ha i hi hik)
    · have hw4 : w 4 j = nI (Q m) := (h2 j (fun i hi he => ht ⟨i, hi, he⟩)).symm.trans e4
      have hw5 := zMv_back gw hj hw4 hq
      rcases hf.2.2.2.2.2 m hm with q | ⟨i, hi, q⟩
      · exact absurd (hw5.symm.trans q) (i_nm1 (by omega))
      · have hPi := hf.2.1 i hi
        have := i_inj (by omega) (by omega) (hw5.symm.trans q)
        exact absurd ⟨i, hi, this.symm⟩ ht
theorem arr_ve (h : zArr w v s b P a) (h' : zArr w v' s b P a') (ha : ∀ i, i < b → a i = a' i) : zVe v v' := by
  obtain ⟨h0, h1, h2, h3⟩ := h
  obtain ⟨k0, k1, k2, k3⟩ := h'
  have h8 := h3.1
  have r4 : ∀ j, v' 4 j = v 4 j := fun j => by
    by_cases ht : ∃ i, i < b ∧ P i = j
    · obtain ⟨i, hi, rfl⟩ := ht
      rw [h1 i hi, k1 i hi, ha i hi]
    · rw [h2 j (fun i hi he => ht ⟨i, hi, he⟩), k2 j (fun i hi he => ht ⟨i, hi, he⟩)]
  refine ⟨fun k _ _ => by rw [k0 0 (by omega), h0 0 (by omega)], fun r x y j _ => ?_, fun k hk => ?_⟩
  · by_cases hr : r = 4
    · rw [hr]; exact r4 j
    · rw [k0 r (by omega), h0 r (by omega)]
  · rcases h3.2.2.2 k hk with q | ⟨i, hi, e, e4⟩
    · rcases k3.2.2.2 k hk with q' | ⟨i', hi', e', e4'⟩
      · rw [q, q']
      · rw [r4] at e4'
        have := zMv_back h3 hi' e4' hk
        exact absurd (this.symm.trans q) (i_nm1 (by omega))
    · rw [e, zMv_back k3 hi ((r4 i).trans e4) hk]
theorem arr_w (g : zGoodV w s) : zArr w w s b P (fun i => w 4 (P i)) := ⟨fun _ _ => rfl, fun _ _ => rfl, fun _ _ => rfl, g⟩
theorem arr_sb (g : zGoodV w s) (hf : zHf w s b P Q) : ∀ k, k ≤ b → ∃ a, zArr w (zSb w P k) s b P a ∧ ∀ i, i < k → a i = -1 := by
  intro k
  induction k with
  | zero => intro _; exact ⟨_, arr_w g, fun i hi => absurd hi (by omega)⟩
  | succ k ih =>
    intro hk
    obtain ⟨a, h, ha⟩ := ih (by omega)
    refine ⟨_, arr_mv (u := -1) hf h (show k < b by omega) (Or.inl rfl), fun i hi => ?_⟩
    unfold zUd
    by_cases hik : i = k
    · rw [if_pos hik]
    · rw [if_neg hik]; exact ha i (by omega)
theorem zCa_eq : ∀ (l : List Nat) (m : Nat) (a a' : Nat → Int32), (∀ i, i < b → a i = a' i) → ∀ i, i < b → zCa Q l m a i = zCa Q l m a' i := by
  intro l
  induction l with
  | nil => intro m a a' h i hi; exact h i hi
  | cons k r ih =>
    intro m a a' h i hi
    refine ih (m + 1) _ _ (fun j hj => ?_) i hi
    unfold zUd
    split
    · rfl
    · exact h j hj
/-- seats not yet given are given to nobody -/
abbrev zFr0 (b m : Nat) (Q : Nat → Nat) (a : Nat → Int32) : Prop := ∀ i q, i < b → m ≤ q → q < b → a i ≠ nI (Q q)
theorem zFr0_st (hf : zHf w s b P Q) (h : zFr0 b m Q a) (hm : m < b) : zFr0 b (m + 1) Q (zUd a k (nI (Q m))) := by
  intro i q hi hq hqb
  unfold zUd
  split
  · intro e
    have q1 := hf.2.2.2.1 m hm
    have q2 := hf.2.2.2.1 q hqb
    have := hf.2.2.2.2.1 m q hm hqb (i_inj (by omega) (by omega) e)
    omega
  · exact h i q hi (by omega) hqb
theorem arr_cv (g : zGoodV w s) (hf : zHf w s b P Q) : ∀ (l : List Nat) (m : Nat) (v : zVw) (a : Nat → Int32), (∀ k, k ∈ l → k < b) → m + l.length ≤ b → zArr w v s b P a → zFr0 b m Q a → zArr w (zCv P Q l m v) s b P (zCa Q l m a) := by
  intro l
  induction l with
  | nil => intro m v a _ _ h _; exact h
  | cons k r ih =>
    intro m v a hl hm h h0
    rw [List.length_cons] at hm
    have hk := hl k List.mem_cons_self
    refine ih (m + 1) _ _ (fun q hq => hl q (List.mem_cons_of_mem _ hq)) (by omega) (arr_mv hf h hk (arr_open g hf h hk (by omega) (fun i hi _ => h0 i m hi (Nat.le_refl m) (by omega)))) (zFr0_st hf h0 (by omega))
theorem zFr0_m1 (hf : zHf w s b P Q) (h : ∀ i, i < b → a i = -1) : zFr0 b 0 Q a := fun i q hi _ hq e => by
  have := hf.2.2.2.1 q hq
  rw [h i hi] at e
  exact i_nm1 (by omega) e.symm
/-- how glad all are, if told ones sit so -/
abbrev zVl (E : zEv2) (w : zVw) (t s b : Nat) (P Q : Nat → Nat) (l : List Nat) : Int32 := zJoy E (zCv P Q l 0 (zSb w P b)) t s
theorem vl_arr (g : zGoodV w s) (hf : zHf w s b P Q) {l : List Nat} (hl : ∀ k, k ∈ l → k < b) (hlen : l.length ≤ b) (h : zArr w v s b P a) (h0 : ∀ i, i < b → a i = -1) : zVe (zCv P Q l 0 v) (zCv P Q l 0 (zSb w P b)) := by
  obtain ⟨a2, h2, h3⟩ := arr_sb g hf b (Nat.le_refl b)
  exact arr_ve (arr_cv g hf l 0 v a hl (by omega) h (zFr0_m1 hf h0)) (arr_cv g hf l 0 _ a2 hl (by omega) h2 (zFr0_m1 hf h3)) (zCa_eq l 0 a a2 (fun i hi => (h0 i hi).trans (h3 i hi).symm))
end AR
