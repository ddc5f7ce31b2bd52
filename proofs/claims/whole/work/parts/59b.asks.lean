/-! what the reference asks of THE RULE of one: the same as a coach's telling -/
section AS2
variable {E : zEv2} {n t s i p : Nat} {J : zzJ} {w : zVw} {m : Int32}
theorem r_asks (g : zGoodV w s) (ti : zTieV J w s) (h : i < s) (hE : zTxR E n (J.2 47) (J.2 48)) (ht : w 0 3 = nI t) (htn : t < n) (hp : p < 3) : ∃ J1, F_X7_asks (nI p) (nI i) m J = some (zTell E w t p (nI i) m, J1) ∧ zLow J J1 := by
  have h8 := g.1
  have hx : zzIx (nI i) 8 := i_ix (by omega) (by omega)
  have hc : (nI i).toNatClampNeg = i := i_cm (by omega)
  let J1 := wI J 46 15 (w 4 i / 4)
  let J2 := wI J1 46 16 (zRem (w 4 i) 4)
  let J3 := wI J2 46 17 m
  let J4 := wI J3 46 18 (w 2 i)
  let J5 := wI J4 46 19 (zBes w (nI i))
  have l1 : zLow J J1 := zLow.wr (by omega)
  have l2 : zLow J J2 := l1.tr (zLow.wr (by omega))
  have l3 : zLow J J3 := l2.tr (zLow.wr (by omega))
  have l4 : zLow J J4 := l3.tr (zLow.wr (by omega))
  have l5 : zLow J J5 := l4.tr (zLow.wr (by omega))
  have q0 : J.2 53 i = w 4 i := (ti.1 i h).2.2.2
  have q1 : J1.2 53 i = w 4 i := by rw [l1.1 53 (by omega)]; exact q0
  have q3 : J3.2 51 i = w 2 i := by rw [l3.1 51 (by omega)]; exact (ti.1 i h).2.1
  have eB : F_X7_besideOf (nI i) J4 = some (zBes w (nI i), J4) := r_beside g (l4.tie ti) h
  have eF : F_X7_hasFriend (nI i) J5 = some (zOne (zNxt w (nI i) (w 3 i)), J5) := r_friend g (l5.tie ti) h
  have h54 : J5.2 46 4 = nI t := (l5.2.1 4 (by omega)).trans (ti.2.2.2.2.1.trans ht)
  have hE5 : zTxR E n (J5.2 47) (J5.2 48) := by rw [l5.1 47 (by omega), l5.1 48 (by omega)]; exact hE
  have fin : ∀ b : Int32, b = zOne (zNxt w (nI i) (w 3 i)) → ∃ J6, F_X7_asks_62 (nI p) b J5 = some (zTell E w t p (nI i) m, J6) ∧ zLow J J6 := by
    intro b hb
    obtain ⟨J6, e6, l6⟩ := r_asks_62 (b := b) hE5 h54 htn hp
    refine ⟨J6, ?_, l5.tr l6⟩
    rw [e6]
    unfold zTell
    rw [hE.1 t p _ (zFacts w (nI i) m)]
    intro k hk
    have hs := zSeat_nI g h
    have i2 : zIt (w 2) 8 (nI i) 0 = w 2 i := zIt_nI (by omega) (by omega)
    have i3 : zIt (w 3) 8 (nI i) 0 = w 3 i := zIt_nI (by omega) (by omega)
    have k6 : k = 0 ∨ k = 1 ∨ k = 2 ∨ k = 3 ∨ k = 4 ∨ k = 5 := by omega
    rcases k6 with rfl | rfl | rfl | rfl | rfl | rfl
    · show w 4 i / 4 = zSeat w (nI i) / 4
      rw [hs]
    · show zRem (w 4 i) 4 = zRem (zSeat w (nI i)) 4
      rw [hs]
    · rfl
    · show w 2 i = zIt (w 2) 8 (nI i) 0
      rw [i2]
    · rfl
    · show b = zOne (zNxt w (nI i) (zIt (w 3) 8 (nI i) 0))
      rw [hb]
      simp only [i3]
  unfold F_X7_asks
  rw [if_pos hx, if_pos hx, if_pos hx, hc, q0]
  show ∃ J7, Option.bind (F_X7_besideOf (nI i) (wI (wI (wI J1 46 16 (zRem (J1.2 53 i) 4)) 46 17 m) 46 18 ((wI (wI J1 46 16 (zRem (J1.2 53 i) 4)) 46 17 m).2 51 i))) _ = _ ∧ _
  rw [q1]
  show ∃ J7, Option.bind (F_X7_besideOf (nI i) (wI J3 46 18 (J3.2 51 i))) _ = _ ∧ _
  rw [q3]
  show ∃ J7, Option.bind (F_X7_besideOf (nI i) J4) _ = _ ∧ _
  rw [eB, Option.bind_some]
  show ∃ J7, Option.bind (F_X7_hasFriend (nI i) J5) _ = _ ∧ _
  rw [eF, Option.bind_some]
  dsimp only
  by_cases hn : zNxt w (nI i) (w 3 i)
  · rw [if_neg (fun z => zOne0.1 z hn)]
    exact fin 1 (if_pos hn).symm
  · rw [if_pos (zOne0.2 hn)]
    exact fin 0 (if_neg hn).symm
end AS2
