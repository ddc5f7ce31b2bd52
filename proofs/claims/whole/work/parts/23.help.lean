/-! small steps (written by wip/whole/gen2.py) -/
theorem zz_chk {α : Type} {c : Prop} {_ : Decidable c} {x : Option α} {r : α} (h : (if c then x else none) = some r) : c ∧ x = some r := by
  split at h
  · next hc => exact ⟨hc, h⟩
  · cases h
theorem zz_bd {α β : Type} {x : Option α} {f : α → Option β} {r : β} (h : Option.bind x f = some r) : ∃ b, x = some b ∧ f b = some r := by
  cases x with
  | none => cases h
  | some b => exact ⟨b, rfl, h⟩
theorem zz_cat_rf (o : Option Nat) : (va_rf o).category = 1 := by cases o <;> rfl
