/-! hat: the best of all orders, the reference -/
theorem mk_0 : ∀ m, m < 64 → ∀ k, k < 6 → ((nI m >>> (nI k &&& 31)) &&& 1 = 0 ↔ m / 2 ^ k % 2 = 0) := by decide +kernel
theorem mk_1a : ∀ m, m < 64 → ∀ k, k < 6 → (m / 2 ^ k % 2 = 1 ∨ (nI m ||| ((1 : Int32) <<< (nI k &&& 31)) = nI (m + 2 ^ k) ∧ m + 2 ^ k < 64)) := by decide +kernel
theorem mk_1b : ∀ m, m < 64 → ∀ k, k < 6 → ∀ j, j < 6 → (m / 2 ^ k % 2 = 1 ∨ (m + 2 ^ k) / 2 ^ j % 2 = 1 ∨ (j ≠ k ∧ m / 2 ^ j % 2 = 0)) := by decide +kernel
theorem mk_1 (m : Nat) (hm : m < 64) (k : Nat) (hk : k < 6) (h : m / 2 ^ k % 2 = 0) : (nI m ||| ((1 : Int32) <<< (nI k &&& 31)) = nI (m + 2 ^ k) ∧ m + 2 ^ k < 64) ∧ ∀ j, j < 6 → (m + 2 ^ k) / 2 ^ j % 2 = 0 → j ≠ k ∧ m / 2 ^ j % 2 = 0 :=
  ⟨(mk_1a m hm k hk).resolve_left (by omega), fun j hj h2 => ((mk_1b m hm k hk j hj).resolve_left (by omega)).resolve_left (by omega)⟩
abbrev zFh (J J1 : zzJ) : Prop := zFrR J J1 ∧ J1.2 58 = J.2 58 ∧ J1.2 46 37 = J.2 46 37
section SK4
variable {E : zEv2} {s t n : Nat} {J J1 J2 : zzJ} {w v v' : zVw} {b h i j k m : Nat} {P Q : Nat → Nat} {a a' : Nat → Int32} {u : Int32} {l : List Nat}
theorem zFh.rf : zFh J J := ⟨zFrR.rf, rfl, rfl⟩
theorem zFh.tr (h1 : zFh J J1) (h2 : zFh J1 J2) : zFh J J2 := ⟨h1.1.tr h2.1, h2.2.1.trans h1.2.1, h2.2.2.trans h1.2.2⟩
theorem zFh.mv (h1 : J1.1 = J.1) (h2 : ∀ b, b ≠ 53 → b ≠ 54 → J1.2 b = J.2 b) : zFh J J1 := ⟨zFrR.mv h1 h2, h2 58 (by omega) (by omega), by rw [h2 46 (by omega) (by omega)]⟩
theorem zFh.lo (h : zLow J J1) : zFh J J1 := ⟨h.fr, h.1 58 (by omega), h.2.1 37 (by omega)⟩
theorem zFh.wr (h : k = 38 ∨ k = 39) : zFh J (wI J 46 k u) := ⟨zFrR.wr (by omega), wI_ne (by omega), by rw [wI_g, if_neg (by omega)]⟩
theorem zCa_snoc : ∀ (l : List Nat) (m k : Nat) (a : Nat → Int32), zCa Q (l ++ [k]) m a = zUd (zCa Q l m a) k (nI (Q (m + l.length))) := by
  intro l
  induction l with
  | nil => intro m k v; rfl
  | cons p r ih =>
    intro m k v
    rw [List.cons_append, zCa, ih, zCa, List.length_cons, show m + 1 + r.length = m + (r.length + 1) by omega]
theorem zUd_back (h : a k = -1) : zUd (zUd a k u) k (-1) = a := by
  funext j
  unfold zUd
  by_cases hj : j = k
  · rw [if_pos hj, hj, h]
  · rw [if_neg hj, if_neg hj]
theorem m_seeks (hh : h < 4) (gw : zGoodV w s) (hf : zHf w s b P Q) (ht : w 0 3 = nI t) (htn : t < n) : ∀ (rem m mask d : Nat) (π : List Nat) (v : zVw) (J0 : zzJ), b = m + rem → π.length = m → (∀ k, k ∈ π → k < b) → mask < 64 → rem ≤ d → zArr w v s b P (zCa Q π 0 (fun _ => -1)) → zFr0 b m Q (zCa Q π 0 (fun _ => -1)) → (∀ k, k < b → mask / 2 ^ k % 2 = 0 → zCa Q π 0 (fun _ => -1) k = -1) → zRx E n s v J0 → J0.2 46 37 = nI b → (∀ i, i < b → J0.2 65 (40 * h + i) = nI (P i) ∧ J0.2 65 (40 * h + b + i) = nI (Q i)) → ∃ J1, F_X7_seeks (R_X7_seeks d) (nI h) (nI m) (nI mask) (zDg π 0) J0 = some J1 ∧ zRx E n s v J1 ∧ zFh J0 J1 ∧ zHs (zVl E w t s b P Q) (zLv b rem mask π) (J0.2 46 38, J0.2 46 39) = (J1.2 46 38, J1.2 46 39) := by
  have hb := hf.1
  have h8 := gw.1
  intro rem
  induction rem with
  | zero =>
    intro m mask d π v J0 hbm hπ hπb hmask hd harr hfr hbit c0 h37 hit
    obtain ⟨J1, e1, lo⟩ := r_joy (t := t) harr.2.2.2 c0.1 c0.2 ((congrFun (harr.1 0 (by omega)) 3).trans ht) htn
    obtain ⟨a2, h2, h3⟩ := arr_sb (P := P) gw hf b (Nat.le_refl b)
    have v1 : zVe (zCv P Q π 0 (zSb w P b)) v := arr_ve (arr_cv gw hf π 0 _ a2 hπb (by omega) h2 (zFr0_m1 hf h3)) harr (zCa_eq π 0 a2 _ h3)
    have eV : zJoy E v t s = zVl E w t s b P Q π := zJoy_ve v1
    have e1 : F_X7_joy J0 = some (zVl E w t s b P Q π, J1) := by rw [e1, ← eV]
    have c1 := c0.lo lo
    have d38 : J1.2 46 38 = J0.2 46 38 := lo.2.1 38 (by omega)
    have d39 : J1.2 46 39 = J0.2 46 39 := lo.2.1 39 (by omega)
    have st : F_X7_seeks (R_X7_seeks d) (nI h) (nI m) (nI mask) (zDg π 0) J0 = (if (J0.2 46 38) = (0 : Int32) then some (wI (wI J1 46 38 (zDg π 0)) 46 39 (zVl E w t s b P Q π)) else (if (J0.2 46 39) < zVl E w t s b P Q π then some (wI (wI J1 46 38 (zDg π 0)) 46 39 (zVl E w t s b P Q π)) else some J1)) := by
      unfold F_X7_seeks F_X7_seeks_30
      rw [h37, if_pos (by rw [hbm]; rfl), e1, Option.bind_some]
      dsimp only
      rw [d38, d39]
    have got : ∀ o, F_X7_seeks (R_X7_seeks d) (nI h) (nI m) (nI mask) (zDg π 0) J0 = o → o = some (wI (wI J1 46 38 (zDg π 0)) 46 39 (zVl E w t s b P Q π)) → (J0.2 46 38 = 0 ∨ J0.2 46 39 < zVl E w t s b P Q π) → ∃ J1, F_X7_seeks (R_X7_seeks d) (nI h) (nI m) (nI mask) (zDg π 0) J0 = some J1 ∧ zRx E n s v J1 ∧ zFh J0 J1 ∧ zHs (zVl E w t s b P Q) (zLv b 0 mask π) (J0.2 46 38, J0.2 46 39) = (J1.2 46 38, J1.2 46 39) := by
      intro o ho hs hc
      refine ⟨_, ho.trans hs, zRx.w1 (by omega) (zRx.w1 (by omega) c1), (zFh.lo lo).tr ((zFh.wr (by omega)).tr (zFh.wr (by omega))), ?_⟩
      rw [zLv, zHs, if_pos hc, wI_g, if_neg (by omega), wI_g, if_pos rfl, wI_g, if_pos rfl]
      rfl
    by_cases hz : J0.2 46 38 = 0
    · exact got _ st (if_pos hz) (Or.inl hz)
    · by_cases hl : J0.2 46 39 < zVl E w t s b P Q π
      · exact got _ st ((if_neg hz).trans (if_pos hl)) (Or.inr hl)
      · refine ⟨J1, by rw [st, if_neg hz, if_neg hl], c1, zFh.lo lo, ?_⟩
        rw [zLv, zHs, if_neg (fun q => q.elim hz hl), d38, d39]
        rfl
  | succ rem ih =>
    intro m mask d π v J0 hbm hπ hπb hmask hd harr hfr hbit c0 h37 hit
    obtain ⟨d, rfl⟩ : ∃ q, d = q + 1 := ⟨d - 1, by omega⟩
    generalize hT : zHs (zVl E w t s b P Q) (zLv b (rem + 1) mask π) (J0.2 46 38, J0.2 46 39) = T
    have gv := harr.2.2.2
    have lp : ∃ J1, F_X7_seeks_46 (R_X7_seeks (d + 1)) 4096 (nI h) (nI m) (nI mask) (zDg π 0) 0 J0 = some J1 ∧ zRx E n s v J1 ∧ zFh J0 J1 ∧ T = (J1.2 46 38, J1.2 46 39) := by
      refine zLoop (G := fun fu (q : Nat × zzJ) => F_X7_seeks_46 (R_X7_seeks (d + 1)) fu (nI h) (nI m) (nI mask) (zDg π 0) (nI q.1) q.2) (P := fun k q => q.1 = k ∧ zRx E n s v q.2 ∧ zFh J0 q.2 ∧ zHs (zVl E w t s b P Q) (zLk (zLv b rem) mask π k (b - k)) (q.2.2 46 38, q.2.2 46 39) = T) (Q := fun r => ∃ J1, r = some J1 ∧ zRx E n s v J1 ∧ zFh J0 J1 ∧ T = (J1.2 46 38, J1.2 46 39)) (s := b) ?_ b 0 (0, J0) (by omega) ⟨rfl, c0, zFh.rf, hT⟩ 4096 (by omega)
      rintro k ⟨k2, J'⟩ hk ⟨rfl, c', fr, hP⟩
      dsimp only at hk c' fr hP ⊢
      have h37' : J'.2 46 37 = nI b := fr.2.2.trans h37
      by_cases hlt : k2 < b
      · right
        rw [show b - k2 = (b - (k2 + 1)) + 1 by omega, zLk] at hP
        have e65 : J'.2 65 = J0.2 65 := fr.1.1 65 (by omega) (by omega)
        by_cases hz : mask / 2 ^ k2 % 2 = 0
        · rw [if_pos hz, zHs_app] at hP
          obtain ⟨⟨ms, ml⟩, mb⟩ := mk_1 mask hmask k2 (by omega) hz
          have hmb : m < b := by omega
          have ha := hbit k2 hlt hz
          have hop := arr_open gw hf harr hlt hmb (fun i hi _ => hfr i m hi (Nat.le_refl m) hmb)
          obtain ⟨J3, e3, t3, a3, b3⟩ := m_seats gv c'.1 (hf.2.1 _ hlt) hop.ok
          have harr1 := arr_mv hf harr hlt hop
          have eA : zCa Q (π ++ [k2]) 0 (fun _ => -1) = zUd (zCa Q π 0 (fun _ => -1)) k2 (nI (Q m)) := by rw [zCa_snoc, Nat.zero_add, hπ]
          have f3 : zFh J' J3 := zFh.mv a3 b3
          obtain ⟨J4, e4, c4, f4, s4⟩ := ih (m + 1) (mask + 2 ^ k2) d (π ++ [k2]) _ J3 (by omega) (by rw [List.length_append, hπ]; rfl) (fun q hq => by
            rcases List.mem_append.1 hq with q1 | q1
            · exact hπb q q1
            · rw [List.mem_singleton.1 q1]; exact hlt) ml (by omega) (by rw [eA]; exact harr1) (by rw [eA]; exact zFr0_st hf hfr hmb) (fun q hq hq2 => by
            obtain ⟨n1, n2⟩ := mb q (by omega) hq2
            rw [eA, zUd_o n1]
            exact hbit q hq n2) ⟨t3, by rw [b3 47 (by omega) (by omega), b3 48 (by omega) (by omega)]; exact c'.2⟩ (f3.2.2.trans h37') (fun i hi => by rw [b3 65 (by omega) (by omega), e65]; exact hit i hi)
          obtain ⟨J5, e5, t5, a5, b5⟩ := m_seats (q := -1) (harr1.2.2.2) c4.1 (hf.2.1 _ hlt) (Or.inl rfl)
          have f5 : zFh J4 J5 := zFh.mv a5 b5
          have harr2 := arr_mv (u := -1) hf harr1 hlt (Or.inl rfl)
          rw [zUd_back ha] at harr2
          have f35 : zFh J' J5 := (f3.tr f4).tr f5
          have t5' : zTieV J5 v s := zVe_tie (arr_ve harr2 harr (fun _ _ => rfl)) h8 t5
          have c5 : zRx E n s v J5 := c'.fr f35.1 t5'
          refine ⟨hlt, (k2 + 1, J5), ⟨rfl, c5, fr.tr f35, ?_⟩, fun fu => ?_⟩
          · dsimp only
            rw [b3 46 (by omega) (by omega)] at s4
            rw [b5 46 (by omega) (by omega), ← s4]
            exact hP
          · have x1 := (hit k2 hlt).1
            have x2 := (hit m hmb).2
            have i1 : zzIx (nI (40 * h + k2)) 160 := i_ix (by omega) (by omega)
            have i2 : zzIx (nI (40 * h + b + m)) 160 := i_ix (by omega) (by omega)
            rw [F_X7_seeks_46, h37', if_pos ((i_lts (by omega) (by omega)).2 hlt), if_pos ((mk_0 mask hmask k2 (by omega)).2 hz), ix_40, ix_40, nI_add, if_pos i1, if_pos i2, i_cm (by omega), i_cm (by omega), e65, x1, x2, e3, Option.bind_some, ms, nI_1, ← zDg_snoc, R_X7_seeks, e4, Option.bind_some, e5, Option.bind_some, nI_1]
        · rw [if_neg hz, List.nil_append] at hP
          refine ⟨hlt, (k2 + 1, J'), ⟨rfl, c', fr, hP⟩, fun fu => ?_⟩
          rw [F_X7_seeks_46, h37', if_pos ((i_lts (by omega) (by omega)).2 hlt), if_neg (fun q => hz ((mk_0 mask hmask k2 (by omega)).1 q)), nI_1]
      · left
        obtain rfl : k2 = b := by omega
        rw [Nat.sub_self, zLk, zHs] at hP
        refine ⟨_, ⟨J', rfl, c', fr, hP.symm⟩, fun fu => ?_⟩
        rw [F_X7_seeks_46, h37', if_neg (fun q => hlt ((i_lts (by omega) (by omega)).1 q))]
    obtain ⟨J1, e1, c1, f1, r1⟩ := lp
    refine ⟨J1, ?_, c1, f1, r1⟩
    unfold F_X7_seeks
    rw [h37, if_neg (fun q => by have := i_inj (by omega) (by omega) q; omega)]
    exact e1
end SK4
