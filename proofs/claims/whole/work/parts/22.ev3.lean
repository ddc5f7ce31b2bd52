/-! the rules in the form that the printed walks use -/
section ZEX
variable {d y pc : Nat} {ls st : List Value} {Z : zzH} {J : zzJ} {r : Option Value × zzH}
theorem ev_retI {x : Int32} (h : zzOp y pc = some (.ireturn, 1)) (hr : (zzM y).2.2.2.1 = some .int) : zzEv d y pc ls [.int x] Z (some (.int x), Z) := ev_ret h (by rw [hr]; rfl)
theorem ev_retZ {x : Int32} (h : zzOp y pc = some (.ireturn, 1)) (hr : (zzM y).2.2.2.1 = some .boolean) (hx : x = 0 ∨ x = 1) : zzEv d y pc ls [.int x] Z (some (.int x), Z) := ev_ret h (by rw [hr]; exact if_pos hx)
theorem ev_retL {x : Int64} (h : zzOp y pc = some (.lreturn, 1)) (hr : (zzM y).2.2.2.1 = some .long) : zzEv d y pc ls [.long x] Z (some (.long x), Z) := ev_ret h (by rw [hr]; rfl)
theorem ev_retV (h : zzOp y pc = some (.return_, 1)) (hr : (zzM y).2.2.2.1 = none) : zzEv d y pc ls [] Z (none, Z) := ev_ret h (by rw [hr]; rfl)
theorem ev_retR {o : Option Nat} {c : String} (h : zzOp y pc = some (.areturn, 1)) (hr : (zzM y).2.2.2.1 = some (.object c)) : zzEv d y pc ls [va_rf o] Z (some (va_rf o), Z) := ev_ret h (by rw [hr]; cases o <;> rfl)
theorem zz_set {i t : Nat} {v : Value} (hg : zzLg ls i = false) (ht : ¬ t = 2) (hi : i < ls.length) : zzSet ls i t v = some (ls.set i v) := by
  unfold zzSet
  rw [if_neg (by rw [hg]; decide), if_neg ht, if_pos hi]
theorem zz_setL {i : Nat} {v : Value} (hg : zzLg ls i = false) (hi : i + 1 < ls.length) : zzSet ls i 2 v = some ((ls.set i v).set (i + 1) zzU) := by
  unfold zzSet
  rw [if_neg (by rw [hg]; decide), if_pos rfl, if_pos hi]
theorem zz_lg {j : Nat} {v : Value} (h : ls[j]? = some v) (hv : v.category = 1) : zzLg ls (j + 1) = false := by
  show (match ls[j]? with | some v => v.category == 2 | none => false) = false
  rw [h]
  dsimp only
  rw [hv]
  rfl
theorem ev_cS {i kd y' pc' : Nat} {as lsn rest : List Value} {v : Option Value} {Z' : zzH} (hd : 1 ≤ d) (h : zzOp y pc = some (.invokestatic i, 3)) (hm : zzGet zzML (zzM y).2.2.2.2.1 i = some (kd, y')) (hk : kd ≤ 1) (hn : (zzM y').2.2.2.2.2.1 = as.length) (he : zzIn y' as.reverse = lsn) (hlen : (zzEnt as.reverse).length ≤ (zzM y').2.2.1) (hcat : zzCat rest ≤ 8) (hc : zzEv (d - 1) y' 0 lsn [] Z (v, Z')) (hp : pc + 3 = pc') (kk : zzEv d y pc' ls (v.toList ++ rest) Z' r) : zzEv d y pc ls (as ++ rest) Z r := by
  obtain ⟨d', rfl⟩ : ∃ d', d = d' + 1 := ⟨d - 1, by omega⟩
  exact ev_callS h hm hk hn he hlen hcat hc hp kk
theorem ev_cV {i y' pc' a : Nat} {as lsn rest : List Value} {v : Option Value} {Z' : zzH} (hd : 1 ≤ d) (h : zzOp y pc = some (.invokevirtual i, 3)) (hm : zzGet zzML (zzM y).2.2.2.2.1 i = some (2, y')) (hn : (zzM y').2.2.2.2.2.1 = as.length + 1) (hcl : zKd a = (zzM y').2.2.2.2.1) (h99 : (zzM y').2.2.2.2.1 ≠ 99) (he : zzIn y' (.ref a :: as.reverse) = lsn) (hlen : (zzEnt (.ref a :: as.reverse)).length ≤ (zzM y').2.2.1) (hcat : zzCat rest ≤ 8) (hc : zzEv (d - 1) y' 0 lsn [] (zK J) (v, Z')) (hp : pc + 3 = pc') (kk : zzEv d y pc' ls (v.toList ++ rest) Z' r) : zzEv d y pc ls (as ++ .ref a :: rest) (zK J) r := by
  obtain ⟨d', rfl⟩ : ∃ d', d = d' + 1 := ⟨d - 1, by omega⟩
  exact ev_callV h hm hn hcl h99 he hlen hcat hc hp kk
theorem sw_out {lo hi : Int} {x : Int32} (n : Nat) (hn : hi = lo + n - 1) (h : ∀ k : Nat, k < n → ¬ x.toInt = lo + k) : x.toInt < lo ∨ hi < x.toInt := by
  rcases (show x.toInt < lo ∨ lo ≤ x.toInt by omega) with h1 | h1
  · exact Or.inl h1
  · refine Or.inr ?_
    rcases (show hi < x.toInt ∨ x.toInt ≤ hi by omega) with h2 | h2
    · exact h2
    · have h3 : (x.toInt - lo).toNat < n := by omega
      exact absurd (by omega) (h (x.toInt - lo).toNat h3)
theorem sw_ne {x c : Int32} {k : Int} (h : ¬ x = c) (hc : c.toInt = k) : ¬ x.toInt = k := fun z => h (Int32.toInt_inj.mp (z.trans hc.symm))
theorem ev_tableIn {df lo hi : Int} {offs : Array Int} {len t : Nat} {x c : Int32} (h : zzOp y pc = some (.tableswitch df lo hi offs, len)) (hx : x = c) (ht : zzFlow pc (.tableswitch df lo hi offs, len) [] [.int c] (zK (fun _ _ => 0, fun _ _ => 0)) = some (t, [], [], zK (fun _ _ => 0, fun _ _ => 0))) (k : zzEv d y t ls st Z r) : zzEv d y pc ls (.int x :: st) Z r := by
  subst hx
  refine ev_table h ?_ k
  simp only [zzFlow] at ht ⊢
  split at ht
  · next ho =>
    rw [if_pos ho]
    cases hz : zzTg pc df with
    | none => rw [hz] at ht; cases ht
    | some t' => rw [hz] at ht; cases ht; rfl
  · next ho =>
    rw [if_neg ho]
    split at ht
    · next off hof =>
      cases hz : zzTg pc off with
      | none => rw [hz] at ht; cases ht
      | some t' => rw [hz] at ht; cases ht; rfl
    · cases ht
theorem ev_tableOut {df lo hi : Int} {offs : Array Int} {len t : Nat} {x : Int32} (h : zzOp y pc = some (.tableswitch df lo hi offs, len)) (ho : x.toInt < lo ∨ hi < x.toInt) (ht : zzTg pc df = some t) (k : zzEv d y t ls st Z r) : zzEv d y pc ls (.int x :: st) Z r := by
  refine ev_table h ?_ k
  simp only [zzFlow]
  rw [if_pos ho, ht]
  rfl
end ZEX
