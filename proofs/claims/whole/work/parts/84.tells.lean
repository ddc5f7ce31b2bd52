/-! noises that were told: the reference; tells -/
theorem zAns.qf {α : Type} {L : Nat} {xs : Nat → Int32} {F R : zzJ → Option (α × zzJ)} {J : zzJ} {E : zEv2} {s t n z : Nat} (I : zInv L xs E s t n z J) (v : α) (h1 : ∃ J1, F J = some (v, J1) ∧ zFrC J J1) (h2 : ∀ J1, zFrC J J1 → zInv L xs E s t n z J1 → zTieV J1 (zW 7 J) s → ∃ J2, R J1 = some (v, J2) ∧ zFrR J1 J2 ∧ zTieV J2 (zW 7 J) s) : zAns L xs F R J := by
  obtain ⟨J1, e1, f1⟩ := h1
  have I1 := inv_C I f1
  have v1 : zVe (zW 7 J) (zW 7 J1) := veW (fun b _ _ => f1.2 b (by omega)) zVe.rf
  have h8 := I.2.1.1.1
  obtain ⟨J2, e2, f2, t2⟩ := h2 J1 f1 I1 (zVe_tie v1.sy h8 I1.2.1.2.1)
  exact ⟨v, J1, J2, e1, e2, E, s, t, n, z, inv_R I1 f2 (zVe_tie v1 h8 t2), I1.1⟩
theorem shl0 : ∀ p, p < 32 → (0 : Int32) <<< (nI p &&& 31) = 0 := by decide
abbrev zFw (c k : Nat) (J J1 : zzJ) : Prop := (∀ b j, ((b ≠ 46 ∧ (b < 53 ∨ 58 < b)) ∨ (b = 46 ∧ (j < 15 ∨ 39 < j))) → ¬ (b = c ∧ j = k) → J1.2 b j = J.2 b j) ∧ ∀ b j, (b ≠ 46 ∨ j ≠ 26) → J1.1 b j = J.1 b j
section TM
variable {L : Nat} {xs : Nat → Int32} {E : zEv2} {s t n z : Nat} {J J1 J2 : zzJ} {w w' : zVw} {x y v off : Int32} {a r i h c k : Nat} {it : Nat → Int32}
theorem zFw.rf : zFw c k J J := ⟨fun _ _ _ _ => rfl, fun _ _ _ => rfl⟩
theorem zFw.tr (h1 : zFw c k J J1) (h2 : zFw c k J1 J2) : zFw c k J J2 := ⟨fun b j x y => (h2.1 b j x y).trans (h1.1 b j x y), fun b j x => (h2.2 b j x).trans (h1.2 b j x)⟩
theorem zFw.of (f : zFrR J J1) : zFw c k J J1 := ⟨fun b j x _ => by
  rcases x with x | x
  · rw [f.1 b x.1 x.2]
  · rw [x.1]; exact f.2.1 j x.2, f.2.2⟩
theorem zFw.wr {u : Int32} : zFw c k J (wI J c k u) := ⟨fun b j _ y => by rw [wI_get, if_neg y], fun _ _ _ => rfl⟩
theorem zFw.fin (f : zFw c k J J1) (e : J1.2 c k = J.2 c k) : zFrR J J1 := by
  refine ⟨fun b h1 h2 => ?_, fun j hj => ?_, f.2⟩
  · funext j
    by_cases hb : b = c ∧ j = k
    · rw [hb.1, hb.2]; exact e
    · exact f.1 b j (Or.inl ⟨h1, h2⟩) hb
  · by_cases hb : 46 = c ∧ j = k
    · rw [hb.1, hb.2]; exact e
    · exact f.1 46 j (Or.inr ⟨rfl, hj⟩) hb
theorem m_unlike (hh : h < 4) (g : zGoodV w s) (ht : w 0 3 = nI t) (htn : t < n) (c0 : zRx E n s w J) (hit : ∀ p, p < s → J.2 65 (40 * h + p) = it p) : ∃ J1, F_X7_unlike (nI h) J = some (zUnl E w t s it, J1) ∧ zLow J J1 := by
  have h8 := g.1
  generalize hT : zUnl E w t s it = T
  refine zLoop (G := fun fu (p : Nat × Int32 × zzJ) => F_X7_unlike_4 fu (nI h) p.2.1 (nI p.1) p.2.2) (P := fun k p => p.1 = k ∧ zUn (fun p => zNoise E w t (nI p)) it k (s - k) p.2.1 = T ∧ zLow J p.2.2) (Q := fun r => ∃ J1, r = some (T, J1) ∧ zLow J J1) (s := s) ?_ s 0 (0, 0, J) (by omega) ⟨rfl, hT, zLow.rf⟩ 4096 (by omega)
  rintro k ⟨k2, l, J'⟩ hk ⟨rfl, hP, lo⟩
  dsimp only at hk hP lo ⊢
  have c' := c0.lo lo
  have hm := r_many g c'.1
  by_cases hlt : k2 < s
  · right
    rw [show s - k2 = (s - (k2 + 1)) + 1 by omega, zUn] at hP
    obtain ⟨J3, e3, l3⟩ := r_noise g c'.1 hlt c'.2 ht htn
    have ei : J3.2 65 (40 * h + k2) = it k2 := by rw [l3.1 65 (by omega), lo.1 65 (by omega)]; exact hit k2 hlt
    refine ⟨hlt, (k2 + 1, (if zNoise E w t (nI k2) = it k2 then l else l ||| ((1 : Int32) <<< (nI k2 &&& 31))), J3), ⟨rfl, hP, lo.tr l3⟩, fun fu => ?_⟩
    rw [F_X7_unlike_4, hm, if_pos ((i_lts (by omega) (by omega)).2 hlt), e3, Option.bind_some, ix_40, if_pos (i_ix (by omega) (by omega)), i_cm (by omega), ← nI_succ]
    dsimp only
    rw [ei, shl0 k2 (by omega), Int32.or_zero]
    by_cases hq : zNoise E w t (nI k2) = it k2
    · rw [if_pos hq, if_pos hq]
    · rw [if_neg hq, if_neg hq]
  · left
    rw [show s - k2 = 0 by omega] at hP
    refine ⟨_, ⟨J', rfl, lo⟩, fun fu => ?_⟩
    rw [F_X7_unlike_4, hm, if_neg (fun q => hlt ((i_lts (by omega) (by omega)).1 q)), ← hP]
    rfl
theorem zFs_dn {A : Nat → Prop} [∀ k, Decidable (A k)] {k m : Nat} (hk : k < m) : zFs A k (m - k) = if A k then nI k else zFs A (k + 1) (m - (k + 1)) := by
  rw [show m - k = (m - (k + 1)) + 1 by omega, zFs]
theorem i_sub1 (x : Int32) : x + (-1) = x - 1 := (Int32.sub_eq_add_neg x 1).symm
/-- the reference's loop over candidates, from the last down -/
theorem m_223 {m : Nat} {T : Nat → Nat} {sort l2 p : Int32} (hh : h < 4) (hm : m ≤ 100) (hl : ∀ (J : zzJ) (v : Int32), F_X7_lays sort p v J = some (wI J c k v)) (htie : ∀ (J : zzJ) (u v : Int32), zTieV J (zWr w r i u) s → zTieV (wI J c k v) (zWr w r i v) s) (hck : (c = 46 ∧ (k = 4 ∨ k = 7)) ∨ c = 50 ∨ c = 51) {J0 : zzJ} (hc0 : J0.2 c k = w r i) (g : ∀ v, v < m → zGoodV (zWr w r i (nI v)) s) (hT : ∀ v, v < m → zWr w r i (nI v) 0 3 = nI (T v) ∧ T v < n) (c0 : zRx E n s w J0) (hit : ∀ q, q < s → J0.2 65 (40 * h + q) = it q) (hs : sort ≠ 0 ∨ l2 = 2 ∨ l2 = 3) : ∃ J1, F_X7_tells_223 4096 (nI h) l2 p sort (w r i) 0 0 (-1) (nI m - 1) J0 = some (if l2 = 2 then zCn (zCand E w s r i T it) m else if l2 = 3 then zFs (zCand E w s r i T it) 0 m else zB (zCand E w s r i T it) m, J1) ∧ zTieV J1 w s ∧ zFrR J0 J1 := by
  generalize hA1 : zCn (zCand E w s r i T it) m = A1
  generalize hA3 : zB (zCand E w s r i T it) m = A3
  have cne : ∀ b, (b = 47 ∨ b = 48 ∨ b = 65) → ∀ j, ¬ (b = c ∧ j = k) := fun b hb j q => by omega
  have fw : ∀ J', zFw c k J0 J' → zTxR E n (J'.2 47) (J'.2 48) ∧ ∀ q, q < s → J'.2 65 (40 * h + q) = it q := fun J' f => by
    have e47 : J'.2 47 = J0.2 47 := by funext j; exact f.1 47 j (by omega) (cne 47 (by omega) j)
    have e48 : J'.2 48 = J0.2 48 := by funext j; exact f.1 48 j (by omega) (cne 48 (by omega) j)
    refine ⟨by rw [e47, e48]; exact c0.2, fun q hq => ?_⟩
    rw [f.1 65 _ (by omega) (cne 65 (by omega) _)]
    exact hit q hq
  refine zLoop (G := fun fu (q : Nat × Int32 × Int32 × Int32 × zzJ) => F_X7_tells_223 fu (nI h) l2 p sort (w r i) q.2.1 q.2.2.1 q.2.2.2.1 (nI q.1 - 1) q.2.2.2.2) (P := fun e q => q.1 + e = m ∧ q.2.2.1 + zCn (zCand E w s r i T it) q.1 = A1 ∧ q.2.2.2.1 = zFs (zCand E w s r i T it) q.1 (m - q.1) ∧ (sort ≠ 0 → q.2.1 ||| zB (zCand E w s r i T it) q.1 = A3) ∧ (∃ u, zTieV q.2.2.2.2 (zWr w r i u) s) ∧ zFw c k J0 q.2.2.2.2) (Q := fun r' => ∃ J1, r' = some (if l2 = 2 then A1 else if l2 = 3 then zFs (zCand E w s r i T it) 0 m else A3, J1) ∧ zTieV J1 w s ∧ zFrR J0 J1) (s := m) ?_ m 0 (m, 0, 0, -1, J0) (by omega) ⟨rfl, by rw [Int32.zero_add]; exact hA1, by rw [Nat.sub_self]; rfl, fun _ => by rw [Int32.zero_or]; exact hA3, ⟨w r i, by rw [zWr_id]; exact c0.1⟩, zFw.rf⟩ 4096 (by omega)
  rintro e ⟨j, l8, l9, l10, J'⟩ he ⟨hj, h1, h2, h3, ⟨u, tu⟩, f'⟩
  dsimp only at hj h1 h2 h3 tu f' ⊢
  by_cases hlt : e < m
  · right
    obtain ⟨v, rfl⟩ : ∃ v, j = v + 1 := ⟨j - 1, by omega⟩
    have hv : v < m := by omega
    obtain ⟨tx, ti'⟩ := fw J' f'
    have fa : zFw c k J' (wI J' c k (nI v)) := zFw.wr
    have ta := htie J' u (nI v) tu
    have fa' := f'.tr fa
    obtain ⟨txa, tia⟩ := fw _ fa'
    obtain ⟨J3, e3, l3⟩ := m_unlike (it := it) hh (g v hv) (hT v hv).1 (hT v hv).2 ⟨ta, txa⟩ tia
    have f3 := fa'.tr (zFw.of l3.fr)
    have t3 := l3.tie ta
    have ej : nI (v + 1) - 1 = nI v := nI_pred v
    have nneg : ¬ nI v < (0 : Int32) := by rw [i_lt, i_nI (by omega)]; show ¬ (v : Int) < 0; omega
    rw [zCn] at h1
    rw [zB] at h3
    have hf := zFs_dn (A := zCand E w s r i T it) hv
    by_cases hA : zCand E w s r i T it v
    · rw [if_pos hA] at h1 h3 hf
      by_cases hso : sort = 0
      · refine ⟨hlt, (v, l8 ||| 0, l9 + 1, nI v, J3), ⟨by omega, ?_, hf.symm, fun q => absurd hso q, ⟨_, t3⟩, f3⟩, fun fu => ?_⟩
        · rw [← h1, Int32.add_assoc, Int32.add_comm 1]
        · rw [F_X7_tells_223, ej, if_neg nneg, hl, Option.bind_some, e3, Option.bind_some]
          dsimp only
          rw [if_pos hA, if_pos hso]
          unfold F_X7_tells_261
          rw [i_sub1]
      · refine ⟨hlt, (v, l8 ||| ((1 : Int32) <<< (nI v &&& 31)), l9 + 1, nI v, J3), ⟨by omega, ?_, hf.symm, fun q => ?_, ⟨_, t3⟩, f3⟩, fun fu => ?_⟩
        · rw [← h1, Int32.add_assoc, Int32.add_comm 1]
        · rw [← h3 q, Int32.or_assoc, Int32.or_comm (zB (zCand E w s r i T it) v)]
        · rw [F_X7_tells_223, ej, if_neg nneg, hl, Option.bind_some, e3, Option.bind_some]
          dsimp only
          rw [if_pos hA, if_neg hso]
          unfold F_X7_tells_261
          rw [i_sub1]
    · rw [if_neg hA] at h1 h3 hf
      refine ⟨hlt, (v, l8, l9, l10, J3), ⟨by omega, h1, by rw [h2, hf], h3, ⟨_, t3⟩, f3⟩, fun fu => ?_⟩
      rw [F_X7_tells_223, ej, if_neg nneg, hl, Option.bind_some, e3, Option.bind_some]
      dsimp only
      rw [if_neg hA, i_sub1]
  · left
    obtain rfl : j = 0 := by omega
    have ta := htie J' u (w r i) tu
    rw [zWr_id] at ta
    refine ⟨_, ⟨wI J' c k (w r i), rfl, ta, (f'.tr zFw.wr).fin (by rw [wI_g, if_pos rfl]; exact hc0.symm)⟩, fun fu => ?_⟩
    rw [F_X7_tells_223, if_pos (by decide), hl, Option.bind_some]
    have e1 : l9 = A1 := by rw [← h1]; exact (Int32.add_zero l9).symm
    have e2 : l10 = zFs (zCand E w s r i T it) 0 m := by rw [h2, Nat.sub_zero]
    by_cases q2 : l2 = 2
    · rw [if_pos q2, if_pos q2, e1]
    · rw [if_neg q2, if_neg q2]
      by_cases q3 : l2 = 3
      · rw [if_pos q3, if_pos q3, e2]
      · rw [if_neg q3, if_neg q3]
        have hso : sort ≠ 0 := hs.resolve_right (fun q => q.elim q2 q3)
        have e3 : l8 = A3 := by rw [← h3 hso]; exact (Int32.or_zero).symm
        rw [e3]
theorem m_seatsBy (hh : h < 4) (hi : i < s) (g : zGoodV w s) (ht : w 0 3 = nI t) (htn : t < n) {J0 : zzJ} (c0 : zRx E n s w J0) (hit : ∀ q, q < s → J0.2 65 (40 * h + q) = it q) : ∃ J1, F_X7_seatsBy (nI h) (nI i) J0 = some (zB (zCseat E w t s i it) 24, J1) ∧ zTieV J1 w s ∧ zFrR J0 J1 := by
  have h8 := g.1
  have lp : ∃ J1, F_X7_seatsBy_13 4096 (nI h) (nI i) (w 4 i) 0 0 J0 = some (zB (zCseat E w t s i it) 24, J1) ∧ zTieV J1 w s ∧ zFrR J0 J1 := by
    refine zLoop (G := fun fu (p : Nat × Int32 × zzJ) => F_X7_seatsBy_13 fu (nI h) (nI i) (w 4 i) p.2.1 (nI p.1) p.2.2) (P := fun k p => p.1 = k ∧ p.2.1 = zB (zCseat E w t s i it) k ∧ zRx E n s w p.2.2 ∧ zFrR J0 p.2.2) (Q := fun r' => ∃ J1, r' = some (zB (zCseat E w t s i it) 24, J1) ∧ zTieV J1 w s ∧ zFrR J0 J1) (s := 24) ?_ 24 0 (0, 0, J0) (by omega) ⟨rfl, rfl, c0, zFrR.rf⟩ 4096 (by omega)
    rintro k ⟨k2, l, J'⟩ hk ⟨rfl, hl, c', fr⟩
    dsimp only at hk hl c' fr ⊢
    subst hl
    by_cases hlt : k2 < 24
    · right
      have hxk : zzIx (nI k2) 24 := i_ix (by omega) (by omega)
      have hck : (nI k2).toNatClampNeg = k2 := i_cm (by omega)
      have s5 : J'.2 54 k2 = w 5 k2 := c'.1.2.1 k2 hlt
      have hown : nI k2 = w 4 i ↔ w 5 k2 = nI i := by
        constructor
        · intro e; exact zMv_back g hi e.symm hlt
        · intro e
          rcases g.2.2.2 k2 hlt with q | ⟨i2, hi2, q, q4⟩
          · exact absurd (e.symm.trans q) (i_nm1 (by omega))
          · have := i_inj (by omega) (by omega) (e.symm.trans q)
            subst this
            exact q4.symm
      have start : ∀ fu, F_X7_seatsBy_13 (fu + 1) (nI h) (nI i) (w 4 i) (zB (zCseat E w t s i it) k2) (nI k2) J' = (if w 5 k2 = -1 then F_X7_seatsBy_37 (F_X7_seatsBy_13 fu) (nI h) (nI i) (w 4 i) (zB (zCseat E w t s i it) k2) (nI k2) J' else (if nI k2 = w 4 i then F_X7_seatsBy_37 (F_X7_seatsBy_13 fu) (nI h) (nI i) (w 4 i) (zB (zCseat E w t s i it) k2) (nI k2) J' else F_X7_seatsBy_13 fu (nI h) (nI i) (w 4 i) (zB (zCseat E w t s i it) k2) (nI (k2 + 1)) J')) := by
        intro fu
        rw [F_X7_seatsBy_13, if_pos ((i_lt24 (by omega)).2 hlt), if_pos hxk, ← nI_succ]
        simp only [hck, s5]
      by_cases hC : zCo1 w i k2
      · have hop : zOpen w i (nI k2) := Or.inr ⟨k2, hlt, rfl, hC⟩
        obtain ⟨J3, e3, t3, a3, b3⟩ := m_seats (q := nI k2) g c'.1 hi hop.ok
        have f3 := fr.tr (zFrR.mv a3 b3)
        have R3 : zTxR E n (J3.2 47) (J3.2 48) := by rw [b3 47 (by omega) (by omega), b3 48 (by omega) (by omega)]; exact c'.2
        have g3 := zMv_good g hi hop
        obtain ⟨J4, e4, l4⟩ := m_unlike (it := it) (t := t) hh g3 ((congrFun (zMv_0 (by omega)) 3).trans ht) htn ⟨t3, R3⟩ (fun q hq => by rw [f3.1 65 (by omega) (by omega)]; exact hit q hq)
        obtain ⟨J5, e5, t5, a5, b5⟩ := m_seats (q := w 4 i) g3 (l4.tie t3) hi (zOwn_open g hi).ok
        have f5 := (f3.tr l4.fr).tr (zFrR.mv a5 b5)
        have v5 : zVe (zMv (zMv w i (nI k2)) i (w 4 i)) w := (zMv_mv g hi hop).tr (zMv_own g hi)
        have c5 : zRx E n s w J5 := c0.fr f5 (zVe_tie v5 h8 t5)
        refine ⟨hlt, (k2 + 1, zB (zCseat E w t s i it) (k2 + 1), J5), ⟨rfl, rfl, c5, f5⟩, fun fu => ?_⟩
        have e37 : F_X7_seatsBy_37 (F_X7_seatsBy_13 fu) (nI h) (nI i) (w 4 i) (zB (zCseat E w t s i it) k2) (nI k2) J' = F_X7_seatsBy_13 fu (nI h) (nI i) (w 4 i) (zB (zCseat E w t s i it) (k2 + 1)) (nI (k2 + 1)) J5 := by
          unfold F_X7_seatsBy_37 F_X7_seatsBy_59
          rw [e3, Option.bind_some, e4, Option.bind_some]
          dsimp only
          rw [e5, Option.bind_some, Option.bind_some, ← nI_succ, shl0 k2 (by omega), Int32.or_zero, zB]
          by_cases hU : zUnl E (zMv w i (nI k2)) t s it = 0
          · rw [if_pos hU, if_pos ⟨hC, hU⟩]
          · rw [if_neg hU, if_neg (fun q => hU q.2)]
        rw [start, e37]
        by_cases q1 : w 5 k2 = -1
        · rw [if_pos q1]
        · rw [if_neg q1, if_pos (hown.2 (hC.resolve_left q1))]
      · refine ⟨hlt, (k2 + 1, zB (zCseat E w t s i it) (k2 + 1), J'), ⟨rfl, rfl, c', fr⟩, fun fu => ?_⟩
        rw [start, if_neg (fun q => hC (Or.inl q)), if_neg (fun q => hC (Or.inr (hown.1 q)))]
        dsimp only
        rw [zB, if_neg (fun q => hC q.1)]
    · left
      obtain rfl : k2 = 24 := by omega
      refine ⟨_, ⟨J', rfl, c'.1, fr⟩, fun fu => ?_⟩
      rw [F_X7_seatsBy_13, if_neg (fun q => hlt ((i_lt24 (by omega)).1 q))]
  obtain ⟨J1, e1, t1, f1⟩ := lp
  refine ⟨J1, ?_, t1, f1⟩
  unfold F_X7_seatsBy
  rw [if_pos (i_ix (by omega) (by omega)), i_cm (by omega), (c0.1.1 i hi).2.2.2]
  exact e1
end TM
