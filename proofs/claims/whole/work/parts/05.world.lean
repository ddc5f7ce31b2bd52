/-! the memory of numbers, and the machine's heap and locals -/
def zzV (σ : Nat → Nat) (v : Value) : Value := match v with
  | .ref a => .ref (σ a)
  | v => v
theorem zzV_cat (σ : Nat → Nat) (v : Value) : (zzV σ v).category = v.category := by cases v <;> rfl
theorem zzV_rf (σ : Nat → Nat) (r : Option Nat) : zzV σ (va_rf r) = va_rf (r.map σ) := by cases r <;> rfl
theorem zzCat_map (σ : Nat → Nat) (st : List Value) : ((st.map (zzV σ)).map fun v => v.category).sum = zzCat st := by
  unfold zzCat
  rw [List.map_map]
  congr 1
  exact List.map_congr_left fun v _ => zzV_cat σ v
def zzAs (σ : Nat → Nat) : Nat → List Value → List (Nat × Value)
  | _, [] => []
  | i, v :: l => if v = zzU then zzAs σ (i + 1) l else (i, zzV σ v) :: zzAs σ (i + 1) l
theorem zzAs_mem (σ : Nat → Nat) : ∀ (l : List Value) (i : Nat) (q : Nat × Value), q ∈ zzAs σ i l ↔ ∃ k v, l[k]? = some v ∧ v ≠ zzU ∧ q = (i + k, zzV σ v) := by
  intro l
  induction l with
  | nil => intro i q; simp [zzAs]
  | cons v l ih =>
    intro i q
    unfold zzAs
    split
    · next hv =>
      rw [ih]
      constructor
      · rintro ⟨k, w, h1, h2, h3⟩
        exact ⟨k + 1, w, by simpa using h1, h2, by rw [h3, Nat.add_assoc, Nat.add_comm 1 k]⟩
      · rintro ⟨k, w, h1, h2, h3⟩
        cases k with
        | zero =>
          rw [List.getElem?_cons_zero] at h1
          exact absurd ((Option.some.inj h1).symm.trans hv) h2
        | succ k => exact ⟨k, w, by simpa using h1, h2, by rw [h3, Nat.add_assoc, Nat.add_comm 1 k]⟩
    · next hv =>
      rw [List.mem_cons, ih]
      constructor
      · rintro (h | ⟨k, w, h1, h2, h3⟩)
        · exact ⟨0, v, rfl, hv, h⟩
        · exact ⟨k + 1, w, by simpa using h1, h2, by rw [h3, Nat.add_assoc, Nat.add_comm 1 k]⟩
      · rintro ⟨k, w, h1, h2, h3⟩
        cases k with
        | zero =>
          rw [List.getElem?_cons_zero] at h1
          left
          rw [Option.some.inj h1]
          exact h3
        | succ k => exact Or.inr ⟨k, w, by simpa using h1, h2, by rw [h3, Nat.add_assoc, Nat.add_comm 1 k]⟩
theorem zz_mono {lsA : Array Slot} {nL : Nat} {l1 l2 : List (Nat × Value)} (h : lv_has lsA nL l1) (hm : ∀ q ∈ l2, q ∈ l1) : lv_has lsA nL l2 := ⟨h.1, h.2.1, fun q hq => h.2.2 q (hm q hq)⟩
theorem zz_at {σ : Nat → Nat} {lsA : Array Slot} {nL k : Nat} {ls : List Value} {v : Value} (hl : lv_has lsA nL (zzAs σ 0 ls)) (h : ls[k]? = some v) (hv : v ≠ zzU) : lsA[k]? = some (.val (zzV σ v)) := by
  have h1 := hl.2.2 (0 + k, zzV σ v) ((zzAs_mem σ ls 0 _).mpr ⟨k, v, h, hv, rfl⟩)
  rw [Nat.zero_add] at h1
  exact h1
theorem zz_ka {σ : Nat → Nat} {ls : List Value} {k : Nat} {v : Value} (h : ls[k]? = some v) (hv : v ≠ zzU) : ∃ j : Nat, (zzAs σ 0 ls)[j]? = some (k, zzV σ v) :=
  List.getElem?_of_mem ((zzAs_mem σ ls 0 _).mpr ⟨k, v, h, hv, by rw [Nat.zero_add]⟩)
theorem zz_set1 {σ : Nat → Nat} {lsA : Array Slot} {nL i : Nat} {ls : List Value} {v : Value} (h : lv_has lsA nL ((i, zzV σ v) :: (zzAs σ 0 ls).filter (fun q => !(q.1 == i) && !(q.1 + 1 == i && q.2.category == 2)))) (hg : zzLg ls i = false) : lv_has lsA nL (zzAs σ 0 (ls.set i v)) := by
  refine zz_mono h fun q hq => ?_
  obtain ⟨k, w, h1, h2, rfl⟩ := (zzAs_mem σ _ _ _).mp hq
  rw [Nat.zero_add]
  rw [List.getElem?_set] at h1
  split at h1
  · next e =>
    subst e
    split at h1
    · cases h1; exact List.mem_cons_self
    · cases h1
  · next e =>
    refine List.mem_cons_of_mem _ (List.mem_filter.mpr ⟨(zzAs_mem σ _ _ _).mpr ⟨k, w, h1, h2, by rw [Nat.zero_add]⟩, ?_⟩)
    have e1 : (k == i) = false := by simpa using Ne.symm e
    by_cases hk : k + 1 = i
    · subst hk
      simp only [zzLg, h1] at hg
      simp [zzV_cat, hg]
    · have e2 : (k + 1 == i) = false := by simpa using hk
      simp [e1, e2]
theorem zz_set2 {σ : Nat → Nat} {lsA : Array Slot} {nL i : Nat} {ls : List Value} {v : Value} (h : lv_has lsA nL ((i, zzV σ v) :: (zzAs σ 0 ls).filter (fun q => !(q.1 == i) && (!(q.1 == i + 1) && !(q.1 + 1 == i && q.2.category == 2))))) (hg : zzLg ls i = false) : lv_has lsA nL (zzAs σ 0 ((ls.set i v).set (i + 1) zzU)) := by
  refine zz_mono h fun q hq => ?_
  obtain ⟨k, w, h1, h2, rfl⟩ := (zzAs_mem σ _ _ _).mp hq
  rw [Nat.zero_add]
  rw [List.getElem?_set] at h1
  split at h1
  · next e =>
    split at h1
    · cases h1; exact absurd rfl h2
    · cases h1
  · next e0 =>
    rw [List.getElem?_set] at h1
    split at h1
    · next e =>
      subst e
      split at h1
      · cases h1; exact List.mem_cons_self
      · cases h1
    · next e =>
      refine List.mem_cons_of_mem _ (List.mem_filter.mpr ⟨(zzAs_mem σ _ _ _).mpr ⟨k, w, h1, h2, by rw [Nat.zero_add]⟩, ?_⟩)
      have e1 : (k == i) = false := by simpa using Ne.symm e
      have e3 : (k == i + 1) = false := by simpa using Ne.symm e0
      by_cases hk : k + 1 = i
      · subst hk
        simp only [zzLg, h1] at hg
        simp [zzV_cat, hg]
        omega
      · have e2 : (k + 1 == i) = false := by simpa using hk
        simp [e1, e2, e3]
/-! the cells -/
def zzFs (σ : Nat → Nat) (Z : zzH) (c a : Nat) : List Value := (List.range (zzN c)).map fun k => zzV σ (zzFv Z c a k)
def zzCell (σ : Nat → Nat) (ca : Nat → ClassId) (Z : zzH) (a : Nat) (q : Nat × Nat) : va_E :=
  if q.1 < 8 then .inr (q.1, zzFs σ Z q.1 a)
  else if q.1 = 10 then .inl (ca 2, q.2, .inr (.inr (.inr (.inr (fun j => (Z.2.1 a j).map σ)))))
  else if q.1 = 9 then .inl (ca 1, q.2, .inl (Z.2.2.2 a))
  else .inl (ca 0, q.2, .inl (Z.2.2.2 a))
def zzWs (σ : Nat → Nat) (ca : Nat → ClassId) (Z : zzH) : va_W := Z.1.zipIdx.map fun q => (σ q.2, zzCell σ ca Z q.2 q.1)
abbrev zzTys (ca : Nat → ClassId) : List (ClassId × FieldType) := [(ca 0, .int), (ca 1, .boolean), (ca 2, .object RX4)]
theorem zzWs_get (σ : Nat → Nat) (ca : Nat → ClassId) (Z : zzH) (a : Nat) : (zzWs σ ca Z)[a]? = (Z.1[a]?).map (fun q => (σ a, zzCell σ ca Z a q)) := by
  unfold zzWs
  rw [List.getElem?_map, List.getElem?_zipIdx]
  cases Z.1[a]? with
  | none => rfl
  | some q => simp
theorem zzWs_at {σ : Nat → Nat} {ca : Nat → ClassId} {Z : zzH} {a : Nat} {q : Nat × Nat} (h : Z.1[a]? = some q) : (zzWs σ ca Z)[a]? = some (σ a, zzCell σ ca Z a q) := by
  rw [zzWs_get, h]; rfl
theorem zzWs_len (σ : Nat → Nat) (ca : Nat → ClassId) (Z : zzH) : (zzWs σ ca Z).length = Z.1.length := by simp [zzWs]
theorem zzWs_D {σ : Nat → Nat} {ca : Nat → ClassId} {B : Nat} {Z : zzH} (hσ : ∀ a, a < 1000 → σ a = B + a) (hZ : Z.1.length ≤ 1000) : va_D (fun q : Nat => B ≤ q) (zzWs σ ca Z) := by
  have key : ∀ (i : Nat) (p : Nat × va_E), (zzWs σ ca Z)[i]? = some p → p.1 = B + i := by
    intro i p h
    rw [zzWs_get] at h
    cases hz : Z.1[i]? with
    | none => rw [hz] at h; cases h
    | some q =>
      rw [hz] at h
      cases h
      have hi : i < Z.1.length := (List.getElem?_eq_some_iff.mp hz).1
      exact hσ i (by omega)
  refine ⟨fun i j p q hi hj h => ?_, fun k q h => ?_⟩
  · rw [key i p hi, key j q hj] at h
    omega
  · rw [key k q h]
    exact Nat.le_add_right _ _
theorem zzWs_set {σ : Nat → Nat} {ca : Nat → ClassId} {Z Z' : zzH} {a : Nat} {q : Nat × Nat} {e : va_E} (h1 : Z'.1 = Z.1) (ha : Z.1[a]? = some q) (he : zzCell σ ca Z' a q = e) (ho : ∀ (x : Nat) (w : Nat × Nat), x ≠ a → zzCell σ ca Z' x w = zzCell σ ca Z x w) : (zzWs σ ca Z).set a (σ a, e) = zzWs σ ca Z' := by
  apply List.ext_getElem?
  intro i
  rw [List.getElem?_set, zzWs_get, zzWs_get, h1]
  have hl : a < (zzWs σ ca Z).length := by rw [zzWs_len]; exact (List.getElem?_eq_some_iff.mp ha).1
  by_cases hi : a = i
  · subst hi
    rw [if_pos rfl, if_pos hl, ha, Option.map_some, he]
  · rw [if_neg hi]
    cases Z.1[i]? with
    | none => rfl
    | some w => rw [Option.map_some, Option.map_some, ho i w (Ne.symm hi)]
theorem zzRo_ne {α : Type} {f : Nat → Nat → α} {a x : Nat} {g : Nat → α} (h : x ≠ a) : zzRo f a g x = f x := by
  funext j
  unfold zzRo
  rw [if_neg h]
theorem zzRo_eq {α : Type} {f : Nat → Nat → α} {a : Nat} {g : Nat → α} : zzRo f a g a = g := by
  funext j
  unfold zzRo
  rw [if_pos rfl]
theorem zzUp_ne {α : Type} {f : Nat → Nat → α} {a x k : Nat} {v : α} (h : x ≠ a) : zzUp f a k v x = f x := by
  funext j
  unfold zzUp
  rw [if_neg (fun e => h e.1)]
theorem zzUp_eq {α : Type} {f : Nat → Nat → α} {a k j : Nat} {v : α} : zzUp f a k v a j = if j = k then v else f a j := by
  unfold zzUp
  simp
theorem zzFv_ro {Z : zzH} {n c0 c a x k : Nat} (h : x ≠ Z.1.length) : zzFv (zzNew Z c0 n) c x k = zzFv Z c x k := by
  unfold zzFv zzNew
  dsimp only
  rw [zzRo_ne h, zzRo_ne h, zzRo_ne h]
theorem zzCell_new {σ : Nat → Nat} {ca : Nat → ClassId} {Z : zzH} {c n x : Nat} {w : Nat × Nat} (h : x ≠ Z.1.length) : zzCell σ ca (zzNew Z c n) x w = zzCell σ ca Z x w := by
  have e : zzFs σ (zzNew Z c n) w.1 x = zzFs σ Z w.1 x := by
    unfold zzFs
    exact List.map_congr_left fun k _ => by rw [zzFv_ro (a := 0) h]
  unfold zzCell
  rw [e]
  unfold zzNew
  dsimp only
  rw [zzRo_ne h, zzRo_ne h]
theorem zzWs_push (σ : Nat → Nat) (ca : Nat → ClassId) (Z : zzH) (c n : Nat) : zzWs σ ca Z ++ [(σ Z.1.length, zzCell σ ca (zzNew Z c n) Z.1.length (c, n))] = zzWs σ ca (zzNew Z c n) := by
  apply List.ext_getElem?
  intro i
  rw [zzWs_get]
  show _ = ((Z.1 ++ [(c, n)])[i]?).map _
  by_cases hi : i < Z.1.length
  · rw [List.getElem?_append_left (by rw [zzWs_len]; exact hi), List.getElem?_append_left hi, zzWs_get]
    cases Z.1[i]? with
    | none => rfl
    | some w => rw [Option.map_some, Option.map_some, zzCell_new (by omega)]
  · rw [List.getElem?_append_right (by rw [zzWs_len]; omega), List.getElem?_append_right (by omega), zzWs_len]
    by_cases h0 : i = Z.1.length
    · subst h0
      rw [Nat.sub_self]; rfl
    · obtain ⟨j, hj⟩ : ∃ j, i - Z.1.length = j + 1 := ⟨i - Z.1.length - 1, by omega⟩
      rw [hj]; rfl
/-- slots that all cells have -/
def zzSl (Z : zzH) : Nat := (Z.1.map Prod.snd).sum
theorem zzSl_new (Z : zzH) (c n : Nat) : zzSl (zzNew Z c n) = zzSl Z + n := by
  unfold zzSl zzNew
  simp
theorem zz_fits (t : FieldType) (a b : Nat) : fits t (.ref a) = fits t (.ref b) := by cases t <;> rfl
theorem zz_narR (t : FieldType) (a : Nat) (h : fits t (.ref 0) = true) : narrow t (.ref a) = .ref a := by cases t <;> first | rfl | (cases h)
