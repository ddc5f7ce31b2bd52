/-! small steps (written by wip/whole/gen2.py) -/
theorem zz_chk {α : Type} {c : Prop} {_ : Decidable c} {x : Option α} {r : α} (h : (if c then x else none) = some r) : c ∧ x = some r := by
  split at h
  · next hc => exact ⟨hc, h⟩
  · cases h
theorem zz_bd {α β : Type} {x : Option α} {f : α → Option β} {r : β} (h : Option.bind x f = some r) : ∃ b, x = some b ∧ f b = some r := by
  cases x with
  | none => cases h
  | some b => exact ⟨b, rfl, h⟩
theorem off_none {d k : Int} : ∀ {l : List (Int × Int)}, (∀ q ∈ l, ¬ k = q.1) → Op.lookupswitch.offset l d k = d := by
  intro l
  induction l with
  | nil => intro _; rfl
  | cons q l ih =>
    intro h
    obtain ⟨a, o⟩ := q
    rw [Op.lookupswitch.offset_cons, if_neg (fun e => h (a, o) List.mem_cons_self e.symm)]
    exact ih fun q hq => h q (List.mem_cons_of_mem _ hq)
theorem look_out {pc : Nat} {df : Int} {ps : Array (Int × Int)} {len t : Nat} {x : Int32} {ls st : List Value} {Z : zzH} (hs : (ps.toList.zip (ps.toList.drop 1)).all (fun (a, next) => a.1 < next.1) = true) (h : ∀ q ∈ ps.toList, ¬ x.toInt = q.1) (ht : zzTg pc df = some t) : zzFlow pc (.lookupswitch df ps, len) ls (.int x :: st) Z = some (t, ls, st, Z) := by
  simp only [zzFlow]
  rw [if_pos hs, off_none h, ht]
  rfl
theorem zz_cat_rf (o : Option Nat) : (va_rf o).category = 1 := by cases o <;> rfl
