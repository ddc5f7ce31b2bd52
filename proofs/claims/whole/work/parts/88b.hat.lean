/-! hat: what a sheet must tell: the reference -/
section HB
variable {L : Nat} {xs : Nat → Int32} {E : zEv2} {s t n z : Nat} {J J1 J2 : zzJ} {w w' : zVw} {x y v off : Int32} {a r i h c k p b m : Nat} {it f : Nat → Int32}
theorem bit_tf (x : Int32) {k : Nat} (hk : k < 32) : ((x >>> (nI k &&& 31)) &&& 1 = 1 ↔ bt x k = true) ∧ ((x >>> (nI k &&& 31)) &&& 1 = 0 ↔ ¬ bt x k = true) := by
  rw [bit_is x hk]
  cases bt x k <;> simp
theorem m_isHat111 (hh : h < 4) (g : zGoodV w s) (ti : zTieV J w s) (hb : b ≤ 6) (h37 : J.2 46 37 = nI b) (hit : ∀ p, p < 2 * b → J.2 65 (40 * h + p) = it p) (l2 : Int32) (hl2 : ∀ q, q < 32 → (bt l2 q = true ↔ ∃ i, i < b ∧ it i = nI q)) : ∃ r, F_X7_isHat_111 4096 (nI h) l2 0 (nI b) J = some (r, J) ∧ zTf (zHu (fun i => it (b + i)) b ∧ ∀ i, i < b → (0 ≤ (it (b + i)).toInt ∧ (it (b + i)).toInt < 24) ∧ (zSit w (it (b + i)) = -1 ∨ ∃ j, j < b ∧ it j = zSit w (it (b + i)))) r := by
  have h8 := g.1
  refine zLoop (G := fun fu (q : Nat × Int32) => F_X7_isHat_111 fu (nI h) l2 q.2 (nI (b + q.1)) J) (P := fun k q => q.1 = k ∧ (zHu (fun i => it (b + i)) k ∧ ∀ i, i < k → (0 ≤ (it (b + i)).toInt ∧ (it (b + i)).toInt < 24) ∧ (zSit w (it (b + i)) = -1 ∨ ∃ j, j < b ∧ it j = zSit w (it (b + i)))) ∧ ∀ p, p < 32 → (bt q.2 p = true ↔ ∃ i, i < k ∧ it (b + i) = nI p)) (Q := fun q => ∃ r, q = some (r, J) ∧ zTf (zHu (fun i => it (b + i)) b ∧ ∀ i, i < b → (0 ≤ (it (b + i)).toInt ∧ (it (b + i)).toInt < 24) ∧ (zSit w (it (b + i)) = -1 ∨ ∃ j, j < b ∧ it j = zSit w (it (b + i)))) r) (s := b) ?_ b 0 (0, 0) (by omega) ⟨rfl, ⟨fun i j _ hi => absurd hi (by omega), fun i hi => absurd hi (by omega)⟩, fun p _ => by rw [b_0]; exact ⟨fun q => absurd q (by decide), fun ⟨i, hi, _⟩ => absurd hi (by omega)⟩⟩ 4096 (by omega)
  rintro k ⟨j, l3⟩ hk ⟨rfl, ⟨hu, hP⟩, hl3⟩
  dsimp only at hk hu hP hl3 ⊢
  have ej : J.2 46 37 = nI b := h37
  have e2b : (2 : Int32) * nI b = nI (2 * b) := by rw [show (2 : Int32) = nI 2 from rfl, pk_mul]
  by_cases hlt : j < b
  · have hx : zzIx (nI (40 * h + (b + j))) 160 := i_ix (by omega) (by omega)
    have hc : (nI (40 * h + (b + j))).toNatClampNeg = 40 * h + (b + j) := i_cm (by omega)
    have st : ∀ fu, F_X7_isHat_111 (fu + 1) (nI h) l2 l3 (nI (b + j)) J = (Option.bind (F_X7_isSeat (it (b + j)) J) fun q3 => (if q3.1 = (0 : Int32) then some ((0 : Int32), q3.2) else (if ((l3 >>> ((it (b + j)) &&& 31)) &&& (1 : Int32)) = (1 : Int32) then some ((0 : Int32), q3.2) else (if zzIx (it (b + j)) 24 then (if (q3.2.2 54 (it (b + j)).toNatClampNeg) = (-1 : Int32) then F_X7_isHat_181 (F_X7_isHat_111 fu) (nI h) l2 l3 (nI (b + j)) (it (b + j)) q3.2 else (if zzIx (it (b + j)) 24 then (if ((l2 >>> ((q3.2.2 54 (it (b + j)).toNatClampNeg) &&& 31)) &&& (1 : Int32)) = (0 : Int32) then some ((0 : Int32), q3.2) else F_X7_isHat_181 (F_X7_isHat_111 fu) (nI h) l2 l3 (nI (b + j)) (it (b + j)) q3.2) else none)) else none)))) := by
      intro fu
      rw [F_X7_isHat_111, ej, e2b, if_pos ((i_lts (by omega) (by omega)).2 (by omega)), ix_40]
      simp only [if_pos hx, hc, hit (b + j) (by omega)]
    by_cases h1 : 0 ≤ (it (b + j)).toInt ∧ (it (b + j)).toInt < 24
    · obtain ⟨q, hq, eq⟩ := i_upto (x := it (b + j)) (m := 23) (by omega) (by omega)
      have hxq : zzIx (nI q) 24 := i_ix (by omega) (by omega)
      have hcq : (nI q).toNatClampNeg = q := i_cm (by omega)
      have s5 : J.2 54 q = w 5 q := ti.2.1 q (by omega)
      have zs : zSit w (it (b + j)) = w 5 q := by rw [eq]; exact zIt_nI (by omega) (by omega)
      by_cases hd : bt l3 q = true
      · left
        obtain ⟨i2, hi2, e2⟩ := (hl3 q (by omega)).1 hd
        refine ⟨_, ⟨0, rfl, Or.inr ⟨rfl, fun u => u.1 j i2 hi2 hlt (by dsimp only; rw [eq, e2])⟩⟩, fun fu => ?_⟩
        rw [st, r_isSeat, Option.bind_some, zOne_t h1]
        refine (if_neg n10).trans ?_
        dsimp only
        rw [eq, if_pos ((bit_tf l3 (by omega)).1.2 hd)]
      · have nd : ¬ ((l3 >>> (nI q &&& 31)) &&& 1 = 1) := fun e => hd ((bit_tf l3 (by omega)).1.1 e)
        have go : (zSit w (it (b + j)) = -1 ∨ ∃ j', j' < b ∧ it j' = zSit w (it (b + j))) → (∀ fu, F_X7_isHat_111 (fu + 1) (nI h) l2 l3 (nI (b + j)) J = F_X7_isHat_181 (F_X7_isHat_111 fu) (nI h) l2 l3 (nI (b + j)) (nI q) J) → j < b ∧ ∃ a' : Nat × Int32, (a'.1 = j + 1 ∧ (zHu (fun i => it (b + i)) (j + 1) ∧ ∀ i, i < j + 1 → (0 ≤ (it (b + i)).toInt ∧ (it (b + i)).toInt < 24) ∧ (zSit w (it (b + i)) = -1 ∨ ∃ j, j < b ∧ it j = zSit w (it (b + i)))) ∧ ∀ p, p < 32 → (bt a'.2 p = true ↔ ∃ i, i < j + 1 ∧ it (b + i) = nI p)) ∧ ∀ f, F_X7_isHat_111 (f + 1) (nI h) l2 l3 (nI (b + j)) J = F_X7_isHat_111 f (nI h) l2 a'.2 (nI (b + a'.1)) J := by
          intro hok hst
          refine ⟨hlt, (j + 1, l3 ||| ((1 : Int32) <<< (nI q &&& 31))), ⟨rfl, ⟨fun i i2 hx1 hx2 => ?_, fun i hi => ?_⟩, fun p hp => ?_⟩, fun fu => ?_⟩
          · by_cases hij : i = j
            · subst hij
              intro e
              exact hd ((hl3 q (by omega)).2 ⟨i2, hx1, by dsimp only at e; rw [← e, eq]⟩)
            · exact hu i i2 hx1 (by omega)
          · by_cases hij : i = j
            · rw [hij]; exact ⟨h1, hok⟩
            · exact hP i (by omega)
          · dsimp only
            rw [bit_set l3 hp (by omega), Bool.or_eq_true, hl3 p hp, decide_eq_true_eq]
            constructor
            · rintro (⟨i2, hi2, e2⟩ | rfl)
              · exact ⟨i2, by omega, e2⟩
              · exact ⟨j, by omega, eq⟩
            · rintro ⟨i2, hi2, e2⟩
              by_cases hij : i2 = j
              · right
                rw [hij, eq] at e2
                exact (i_inj (by omega) (by omega) e2).symm
              · exact Or.inl ⟨i2, by omega, e2⟩
          · rw [hst]
            unfold F_X7_isHat_181
            rw [← nI_succ]
            rfl
        by_cases hs : w 5 q = -1
        · right
          refine go (Or.inl (zs.trans hs)) (fun fu => ?_)
          rw [st, r_isSeat, Option.bind_some, zOne_t h1]
          refine (if_neg n10).trans ?_
          dsimp only
          rw [eq, if_neg nd, if_pos hxq]
          simp only [hcq, s5, if_pos hs]
        · obtain ⟨u, hu2, eu, _⟩ := (g.2.2.2 q (by omega)).resolve_left hs
          have st2 : ∀ fu, F_X7_isHat_111 (fu + 1) (nI h) l2 l3 (nI (b + j)) J = (if ((l2 >>> (nI u &&& 31)) &&& (1 : Int32)) = (0 : Int32) then some ((0 : Int32), J) else F_X7_isHat_181 (F_X7_isHat_111 fu) (nI h) l2 l3 (nI (b + j)) (nI q) J) := by
            intro fu
            rw [st, r_isSeat, Option.bind_some, zOne_t h1]
            refine (if_neg n10).trans ?_
            dsimp only
            rw [eq, if_neg nd, if_pos hxq]
            simp only [hcq, s5, if_neg hs, if_pos hxq, eu]
            rw [if_neg (i_nm1 (by omega))]
          by_cases ht : bt l2 u = true
          · right
            obtain ⟨i2, hi2, e2⟩ := (hl2 u (by omega)).1 ht
            refine go (Or.inr ⟨i2, hi2, by rw [zs, eu, e2]⟩) (fun fu => ?_)
            rw [st2, if_neg (fun e => (bit_tf l2 (by omega)).2.1 e ht)]
          · left
            refine ⟨_, ⟨0, rfl, Or.inr ⟨rfl, fun v => ?_⟩⟩, fun fu => ?_⟩
            · rcases (v.2 j hlt).2 with q1 | ⟨i2, hi2, q1⟩
              · exact hs (zs.symm.trans q1)
              · exact ht ((hl2 u (by omega)).2 ⟨i2, hi2, by rw [q1, zs, eu]⟩)
            · rw [st2, if_pos ((bit_tf l2 (by omega)).2.2 ht)]
    · left
      refine ⟨_, ⟨0, rfl, Or.inr ⟨rfl, fun u => h1 (u.2 j hlt).1⟩⟩, fun fu => ?_⟩
      rw [st, r_isSeat, Option.bind_some, zOne_f h1]
      exact if_pos rfl
  · left
    obtain rfl : j = b := by omega
    refine ⟨_, ⟨1, rfl, Or.inl ⟨rfl, hu, hP⟩⟩, fun fu => ?_⟩
    rw [F_X7_isHat_111, ej, e2b, if_neg (fun q => by have := (i_lts (by omega) (by omega)).1 q; omega)]
theorem m_isHat48 (hh : h < 4) (g : zGoodV w s) (ti : zTieV J w s) (hb : b ≤ 6) (h37 : J.2 46 37 = nI b) (hit : ∀ p, p < 2 * b → J.2 65 (40 * h + p) = it p) : ∃ r, F_X7_isHat_48 4096 (nI h) 0 0 J = some (r, J) ∧ zTf (zHok w s it b) r := by
  have h8 := g.1
  refine zLoop (G := fun fu (q : Nat × Int32) => F_X7_isHat_48 fu (nI h) q.2 (nI q.1) J) (P := fun k q => q.1 = k ∧ ((∀ i, i < k → 0 ≤ (it i).toInt ∧ (it i).toInt < s) ∧ zHu it k) ∧ ∀ p, p < 32 → (bt q.2 p = true ↔ ∃ i, i < k ∧ it i = nI p)) (Q := fun q => ∃ r, q = some (r, J) ∧ zTf (zHok w s it b) r) (s := b) ?_ b 0 (0, 0) (by omega) ⟨rfl, ⟨fun i hi => absurd hi (by omega), fun i j _ hi => absurd hi (by omega)⟩, fun p _ => by rw [b_0]; exact ⟨fun q => absurd q (by decide), fun ⟨i, hi, _⟩ => absurd hi (by omega)⟩⟩ 4096 (by omega)
  rintro k ⟨j, l2⟩ hk ⟨rfl, ⟨hP, hu⟩, hl2⟩
  dsimp only at hk hu hP hl2 ⊢
  by_cases hlt : j < b
  · have hx : zzIx (nI (40 * h + j)) 160 := i_ix (by omega) (by omega)
    have hc : (nI (40 * h + j)).toNatClampNeg = 40 * h + j := i_cm (by omega)
    have st : ∀ fu, F_X7_isHat_48 (fu + 1) (nI h) l2 (nI j) J = (Option.bind (F_X7_isOne (it j) J) fun q12 => (if q12.1 = (0 : Int32) then some ((0 : Int32), q12.2) else (if ((l2 >>> ((it j) &&& 31)) &&& (1 : Int32)) = (1 : Int32) then some ((0 : Int32), q12.2) else F_X7_isHat_48 fu (nI h) (l2 ||| ((1 : Int32) <<< ((it j) &&& 31))) (nI (j + 1)) q12.2))) := by
      intro fu
      rw [F_X7_isHat_48, h37, if_pos ((i_lts (by omega) (by omega)).2 hlt), ix_40, ← nI_succ]
      simp only [if_pos hx, hc, hit j (by omega)]
    by_cases h1 : 0 ≤ (it j).toInt ∧ (it j).toInt < s
    · obtain ⟨q, hq, eq⟩ := w_one g h1
      by_cases hd : bt l2 q = true
      · left
        obtain ⟨i2, hi2, e2⟩ := (hl2 q (by omega)).1 hd
        refine ⟨_, ⟨0, rfl, Or.inr ⟨rfl, fun u => u.1.2 j i2 hi2 hlt (by rw [eq, e2])⟩⟩, fun fu => ?_⟩
        rw [st, r_isOne g ti, Option.bind_some, zOne_t h1]
        refine (if_neg n10).trans ?_
        dsimp only
        rw [eq, if_pos ((bit_tf l2 (by omega)).1.2 hd)]
      · right
        refine ⟨hlt, (j + 1, l2 ||| ((1 : Int32) <<< (nI q &&& 31))), ⟨rfl, ⟨fun i hi => ?_, fun i i2 hx1 hx2 => ?_⟩, fun p hp => ?_⟩, fun fu => ?_⟩
        · by_cases hij : i = j
          · rw [hij]; exact h1
          · exact hP i (by omega)
        · by_cases hij : i = j
          · subst hij
            intro e
            exact hd ((hl2 q (by omega)).2 ⟨i2, hx1, by rw [← e, eq]⟩)
          · exact hu i i2 hx1 (by omega)
        · dsimp only
          rw [bit_set l2 hp (by omega), Bool.or_eq_true, hl2 p hp, decide_eq_true_eq]
          constructor
          · rintro (⟨i2, hi2, e2⟩ | rfl)
            · exact ⟨i2, by omega, e2⟩
            · exact ⟨j, by omega, eq⟩
          · rintro ⟨i2, hi2, e2⟩
            by_cases hij : i2 = j
            · right
              rw [hij, eq] at e2
              exact (i_inj (by omega) (by omega) e2).symm
            · exact Or.inl ⟨i2, by omega, e2⟩
        · rw [st, r_isOne g ti, Option.bind_some, zOne_t h1]
          refine (if_neg n10).trans ?_
          dsimp only
          rw [eq, if_neg (fun e => hd ((bit_tf l2 (by omega)).1.1 e))]
    · left
      refine ⟨_, ⟨0, rfl, Or.inr ⟨rfl, fun u => h1 (u.1.1 j hlt)⟩⟩, fun fu => ?_⟩
      rw [st, r_isOne g ti, Option.bind_some, zOne_f h1]
      exact if_pos rfl
  · left
    obtain rfl : j = b := by omega
    obtain ⟨r, er, hr⟩ := m_isHat111 hh g ti hb h37 hit l2 hl2
    refine ⟨_, ⟨r, rfl, hr.imp (fun ⟨q, u⟩ => ⟨q, ⟨hP, hu⟩, u⟩) (fun ⟨q, u⟩ => ⟨q, fun v => u v.2⟩)⟩, fun fu => ?_⟩
    rw [F_X7_isHat_48, h37, if_neg (fun q => hlt ((i_lts (by omega) (by omega)).1 q))]
    exact er
abbrev zHall (w : zVw) (s m : Nat) (it : Nat → Int32) : Prop := m % 2 = 0 ∧ (1 ≤ m / 2 ∧ m / 2 ≤ 6) ∧ zHok w s it (m / 2)
theorem rem2 (hm : m < 1000) : zRem (nI m) 2 = nI (m % 2) := pk_rem (d := 2) (by omega) (by omega) (by omega)
theorem m_isHat (hh : h < 4) (g : zGoodV w s) (c0 : zRx E n s w J) (hm : m ≤ 40) (h64 : J.2 64 h = nI m) (hit : ∀ p, p < m → J.2 65 (40 * h + p) = it p) : ∃ r J1, F_X7_isHat (nI h) J = some (r, J1) ∧ zTf (zHall w s m it) r ∧ zRx E n s w J1 ∧ zFrR J J1 ∧ (r = 1 → J1.2 46 37 = nI (m / 2)) := by
  have hx : zzIx (nI h) 4 := i_ix (by omega) (by omega)
  have hc : (nI h).toNatClampNeg = h := i_cm (by omega)
  have st : F_X7_isHat (nI h) J = (if nI (m % 2) = (0 : Int32) then (Option.bind (F_X7_in (nI m).toInt64 (2 : Int64) (12 : Int64) J) fun q18 => (if q18.1 = (0 : Int32) then some ((0 : Int32), q18.2) else F_X7_isHat_48 4096 (nI h) (0 : Int32) (0 : Int32) (wI q18.2 46 37 ((q18.2.2 64 h) / (2 : Int32))))) else some ((0 : Int32), J)) := by
    unfold F_X7_isHat
    simp only [if_pos hx, hc, h64]
    rw [rem2 (by omega)]
  by_cases hev : m % 2 = 0
  · have e2 : (2 : Int64).toInt = 2 := rfl
    have e12 : (12 : Int64).toInt = 12 := rfl
    rw [st, if_pos (by rw [hev]; rfl), b_inI, Option.bind_some]
    by_cases hr : 2 ≤ m ∧ m ≤ 12
    · rw [zOne_t (by rw [i_nI (by omega)]; omega)]
      dsimp only
      rw [if_neg n10, h64, show nI m / (2 : Int32) = nI (m / 2) from pk_div (d := 2) (by omega) (by omega) (by omega)]
      have c1 : zRx E n s w (wI J 46 37 (nI (m / 2))) := zRx.w1 (by omega) c0
      obtain ⟨r, er, hr2⟩ := m_isHat48 (it := it) (b := m / 2) (J := wI J 46 37 (nI (m / 2))) hh g c1.1 (by omega) (by rw [wI_g, if_pos rfl]) (fun p hp => by rw [wI_ne (by omega)]; exact hit p (by omega))
      refine ⟨r, _, er, ?_, c1, zFrR.wr (by omega), fun _ => by rw [wI_g, if_pos rfl]⟩
      exact hr2.imp (fun ⟨q, u⟩ => ⟨q, hev, by omega, u⟩) (fun ⟨q, u⟩ => ⟨q, fun v => u v.2.2⟩)
    · rw [zOne_f (by rw [i_nI (by omega)]; omega)]
      exact ⟨0, J, if_pos rfl, Or.inr ⟨rfl, fun v => hr (by have := v.2.1; omega)⟩, c0, zFrR.rf, fun e => absurd e (by decide)⟩
  · rw [st, if_neg (by rw [show m % 2 = 1 by omega]; decide)]
    exact ⟨0, J, rfl, Or.inr ⟨rfl, fun v => hev v.1⟩, c0, zFrR.rf, fun e => absurd e (by decide)⟩
theorem t_takes (hh : h < 4) (g : zGoodV w s) (v7 : zVe w (zW 7 J)) (hm : m ≤ 40) (h0 : ¬ J.2 (38 + 2 * h) 0 = -1) (h1 : J.2 (38 + 2 * h) 1 = nI m) (hit : ∀ p, p < m → J.2 (39 + 2 * h) p = it p) : ∃ r J1, F_X1_takes (38 + 2 * h) 7 J = some (r, J1) ∧ zTf (zHall w s m it) r ∧ zFrC J J1 ∧ (r = 1 → J1.2 33 3 = nI (m / 2) ∧ (∀ i, i < m / 2 → J1.2 34 i = it i) ∧ ∀ i, i < m / 2 → J1.2 35 i = it (m / 2 + i)) := by
  have dv : nI m / (2 : Int32) = nI (m / 2) := pk_div (d := 2) (by omega) (by omega) (by omega)
  have st : F_X1_takes (38 + 2 * h) 7 J = (if nI (m % 2) = (0 : Int32) then (if nI (m / 2) < (1 : Int32) then some ((0 : Int32), (wI J 33 3 (nI (m / 2)))) else (if (6 : Int32) < nI (m / 2) then some ((0 : Int32), (wI J 33 3 (nI (m / 2)))) else F_X1_takes_49 4096 (38 + 2 * h) 7 (0 : Int32) (wI J 33 3 (nI (m / 2))))) else some ((0 : Int32), J)) := by
    unfold F_X1_takes
    rw [if_pos (sh_k hh).1, b_missing hh, Option.bind_some, zOne_f h0]
    refine (if_pos rfl).trans ?_
    dsimp only
    rw [h1, rem2 (by omega), dv, wI_g, if_pos rfl]
  have fw : zFrC J (wI J 33 3 (nI (m / 2))) := ⟨rfl, fun b hb => wI_ne (by omega)⟩
  have n0 : ∀ J1 : zzJ, (0 : Int32) = 1 → J1.2 33 3 = nI (m / 2) ∧ (∀ i, i < m / 2 → J1.2 34 i = it i) ∧ ∀ i, i < m / 2 → J1.2 35 i = it (m / 2 + i) := fun _ e => absurd e (by decide)
  by_cases hev : m % 2 = 0
  · rw [st, if_pos (by rw [hev]; rfl)]
    by_cases ha : m / 2 < 1
    · rw [if_pos (by rw [i_lt, i_nI (by omega)]; show ((m / 2 : Nat) : Int) < 1; omega)]
      exact ⟨0, _, rfl, Or.inr ⟨rfl, fun v => by have := v.2.1; omega⟩, fw, n0 _⟩
    · rw [if_neg (by rw [i_lt, i_nI (by omega)]; show ¬ ((m / 2 : Nat) : Int) < 1; omega)]
      by_cases hb : 6 < m / 2
      · rw [if_pos (by rw [i_lt, i_nI (by omega)]; show (6 : Int) < ((m / 2 : Nat) : Int); omega)]
        exact ⟨0, _, rfl, Or.inr ⟨rfl, fun v => by have := v.2.1; omega⟩, fw, n0 _⟩
      · rw [if_neg (by rw [i_lt, i_nI (by omega)]; show ¬ (6 : Int) < ((m / 2 : Nat) : Int); omega)]
        obtain ⟨r, J1, er, hr, a1, b1, c1, d1⟩ := t_takes49 (it := it) (b := m / 2) (J0 := wI J 33 3 (nI (m / 2))) hh g (by omega) (veW (fun c _ _ => wI_ne (by omega)) v7) (by rw [wI_g, if_pos rfl]) (fun i hi => by rw [wI_ne (by omega)]; exact hit i (by omega))
        refine ⟨r, J1, er, ?_, fw.tr ⟨a1, fun c hc => b1 c (by omega) (by omega)⟩, fun _ => ⟨?_, c1, d1⟩⟩
        · exact hr.imp (fun ⟨q, u⟩ => ⟨q, hev, by omega, u⟩) (fun ⟨q, u⟩ => ⟨q, fun v => u v.2.2⟩)
        · rw [b1 33 (by omega) (by omega), wI_g, if_pos rfl]
  · rw [st, if_neg (by rw [show m % 2 = 1 by omega]; decide)]
    exact ⟨0, J, rfl, Or.inr ⟨rfl, fun v => hev v.1⟩, zFrC.rf, n0 _⟩
end HB
