/-! noises that were told: the class -/
def zUn (f it : Nat → Int32) : Nat → Nat → Int32 → Int32
  | _, 0, l => l
  | p, e + 1, l => zUn f it (p + 1) e (if f p = it p then l else l ||| ((1 : Int32) <<< (nI p &&& 31)))
abbrev zUnl (E : zEv2) (w : zVw) (t s : Nat) (it : Nat → Int32) : Int32 := zUn (fun p => zNoise E w t (nI p)) it 0 s 0
def zB (A : Nat → Prop) [∀ k, Decidable (A k)] : Nat → Int32
  | 0 => 0
  | k + 1 => if A k then zB A k ||| ((1 : Int32) <<< (nI k &&& 31)) else zB A k
def zCn (A : Nat → Prop) [∀ k, Decidable (A k)] : Nat → Int32
  | 0 => 0
  | k + 1 => if A k then zCn A k + 1 else zCn A k
def zFs (A : Nat → Prop) [∀ k, Decidable (A k)] : Nat → Nat → Int32
  | _, 0 => -1
  | k, e + 1 => if A k then nI k else zFs A (k + 1) e
section TL
variable {L : Nat} {xs : Nat → Int32} {E : zEv2} {s t n z : Nat} {J J1 J2 : zzJ} {w w' : zVw} {x y v off : Int32} {a r i h : Nat} {it : Nat → Int32}
theorem zUn_eq {f f' it it' : Nat → Int32} : ∀ (e p : Nat) (l : Int32), (∀ j, p ≤ j → j < p + e → f j = f' j ∧ it j = it' j) → zUn f it p e l = zUn f' it' p e l := by
  intro e
  induction e with
  | zero => intro p l _; rfl
  | succ e ih =>
    intro p l hh
    obtain ⟨a, b⟩ := hh p (by omega) (by omega)
    rw [zUn, zUn, a, b]
    exact ih (p + 1) _ (fun j h1 h2 => hh j (by omega) (by omega))
theorem zUnl_ve (v : zVe w w') : zUnl E w' t s it = zUnl E w t s it := zUn_eq s 0 0 (fun j _ _ => ⟨zVe_noise v E t (nI j), rfl⟩)
theorem zWr_wr {u : Int32} : zWr (zWr w r i v) r i u = zWr w r i u := by
  funext r' j
  unfold zWr
  split <;> rfl
theorem zWr_id : zWr w r i (w r i) = w := by
  funext r' j
  unfold zWr
  split
  · next hh => rw [hh.1, hh.2]
  · rfl
/-- whose noise isn't as the sheet h tells it -/
theorem t_other (hh : h < 4) (vv : zVe w (zW 14 J)) (h4 : w 0 4 = nI s) (hs : s ≤ 8) (ht : w 0 3 = nI t) (htn : t < n) (hC : zTxC E n (J.2 2) (J.2 3)) (hit : ∀ p, p < s → J.2 (39 + 2 * h) p = it p) : ∃ J1, F_X0_otherwise 14 (38 + 2 * h) J = some (zUnl E w t s it, J1) ∧ zVe w (zW 14 J1) ∧ zFrC J J1 := by
  generalize hT : zUnl E w t s it = T
  refine zLoop (G := fun fu (p : Nat × Int32 × zzJ) => F_X0_otherwise_4 fu 14 (38 + 2 * h) p.2.1 (nI p.1) p.2.2) (P := fun k p => p.1 = k ∧ zUn (fun p => zNoise E w t (nI p)) it k (s - k) p.2.1 = T ∧ zVe w (zW 14 p.2.2) ∧ zFrC J p.2.2) (Q := fun r => ∃ J1, r = some (T, J1) ∧ zVe w (zW 14 J1) ∧ zFrC J J1) (s := s) ?_ s 0 (0, 0, J) (by omega) ⟨rfl, hT, vv, zFrC.rf⟩ 4096 (by omega)
  rintro k ⟨k2, l, J'⟩ hk ⟨rfl, hP, v', fr⟩
  dsimp only at hk hP v' fr ⊢
  have hm : J'.2 14 4 = nI s := (v'.1 4 (by omega) (by omega)).trans h4
  by_cases hlt : k2 < s
  · right
    rw [show s - k2 = (s - (k2 + 1)) + 1 by omega, zUn] at hP
    obtain ⟨J3, e3, s3⟩ := cw_noise (x := nI k2) (J := J') zC14 (by rw [fr.2 2 (by omega), fr.2 3 (by omega)]; exact hC) ((v'.1 3 (by omega) (by omega)).trans ht) htn
    rw [zVe_noise v'] at e3
    have f3 := s3.fr (Or.inr rfl)
    have ei : F_X4_item (38 + 2 * h) (nI k2) J3 = some (it k2, J3) := by
      rw [b_item hh, zIt_nI (by omega) (by omega), f3.2 _ (by omega), fr.2 _ (by omega), hit k2 hlt]
    refine ⟨hlt, (k2 + 1, (if zNoise E w t (nI k2) = it k2 then l else l ||| ((1 : Int32) <<< (nI k2 &&& 31))), J3), ⟨rfl, hP, veW (fun b _ _ => s3.2 b (by omega) (by omega)) v', fr.tr f3⟩, fun fu => ?_⟩
    rw [F_X0_otherwise_4, if_pos (co_kd zC14), hm, if_pos ((i_lts (by omega) (by omega)).2 hlt), e3, Option.bind_some, if_pos (sh_k hh).1]
    dsimp only
    rw [ei, Option.bind_some, ← nI_succ]
    dsimp only
    by_cases hq : zNoise E w t (nI k2) = it k2
    · rw [if_pos hq, if_pos hq]
    · rw [if_neg hq, if_neg hq]
  · left
    rw [show s - k2 = 0 by omega] at hP
    refine ⟨_, ⟨J', rfl, v', fr⟩, fun fu => ?_⟩
    rw [F_X0_otherwise_4, if_pos (co_kd zC14), hm, if_neg (fun q => hlt ((i_lts (by omega) (by omega)).1 q)), ← hP]
    rfl
/-- a candidate: a view with one number written -/
abbrev zCand (E : zEv2) (w : zVw) (s r i : Nat) (T : Nat → Nat) (it : Nat → Int32) (v : Nat) : Prop := zUnl E (zWr w r i (nI v)) (T v) s it = 0
theorem t_cand {v : Nat} {T : Nat → Nat} {cur : Int32} (hh : h < 4) (hr : r ≤ 4) (vv : zVe (zWr w r i cur) (zW 14 J)) (h4 : w 0 4 = nI s) (hri : r ≠ 0 ∨ i ≠ 4) (hs : s ≤ 8) (ht : zWr w r i (nI v) 0 3 = nI (T v)) (htn : T v < n) (hC : zTxC E n (J.2 2) (J.2 3)) (hit : ∀ p, p < s → J.2 (39 + 2 * h) p = it p) : ∃ J1, F_X0_otherwise 14 (38 + 2 * h) (wI J (14 + r) i (nI v)) = some (zUnl E (zWr w r i (nI v)) (T v) s it, J1) ∧ zVe (zWr w r i (nI v)) (zW 14 J1) ∧ zFrC J J1 := by
  have v1 : zVe (zWr w r i (nI v)) (zW 14 (wI J (14 + r) i (nI v))) := by
    have := ve_wr (a := 14) (r := r) (i := i) (v := nI v) vv
    rw [zWr_wr] at this
    exact this
  have f1 : zFrC J (wI J (14 + r) i (nI v)) := ⟨rfl, fun b hb => wI_ne (by omega)⟩
  obtain ⟨J1, e1, v2, f2⟩ := t_other (it := it) hh v1 ((zWr_o (by omega)).trans h4) hs ht htn (by rw [f1.2 2 (by omega), f1.2 3 (by omega)]; exact hC) (fun p hp => by rw [f1.2 _ (by omega)]; exact hit p hp)
  exact ⟨J1, e1, v2, f1.tr f2⟩
/-- of one who sits otherwise, of a kind, of a number: bits -/
theorem t_items {m c : Nat} {T : Nat → Nat} (hh : h < 4) (hr : r = 1 ∨ r = 2) (hc : c = 14 + r) (hi : i < 8) (hm : m < 32) {J0 : zzJ} (vv : zVe w (zW 14 J0)) (h4 : w 0 4 = nI s) (hs : s ≤ 8) (hT : ∀ v, v < m → w 0 3 = nI (T v) ∧ T v < n) (hC : zTxC E n (J0.2 2) (J0.2 3)) (hit : ∀ p, p < s → J0.2 (39 + 2 * h) p = it p) : ∃ J1, F_X6_itemsTold (38 + 2 * h) c (nI i) (nI m) J0 = some (zB (zCand E w s r i T it) m, J1) ∧ zFrC J0 J1 := by
  refine zLoop (G := fun fu (p : Nat × Int32 × zzJ) => F_X6_itemsTold_6 fu (38 + 2 * h) c (nI i) (nI m) p.2.1 (nI p.1) p.2.2) (P := fun k p => p.1 = k ∧ p.2.1 = zB (zCand E w s r i T it) k ∧ (∃ cur, zVe (zWr w r i cur) (zW 14 p.2.2)) ∧ zFrC J0 p.2.2) (Q := fun r' => ∃ J1, r' = some (zB (zCand E w s r i T it) m, J1) ∧ zFrC J0 J1) (s := m) ?_ m 0 (0, 0, J0) (by omega) ⟨rfl, rfl, ⟨w r i, by rw [zWr_id]; exact vv⟩, zFrC.rf⟩ 4096 (by omega)
  rintro k ⟨k2, l, J'⟩ hk ⟨rfl, hl, ⟨cur, v'⟩, fr⟩
  dsimp only at hk hl v' fr ⊢
  subst hl
  by_cases hlt : k2 < m
  · right
    obtain ⟨J3, e3, v3, f3⟩ := t_cand (T := T) (v := k2) (it := it) hh (by omega) v' h4 (by omega) hs ((zWr_o (by omega)).trans (hT k2 hlt).1) (hT k2 hlt).2 (by rw [fr.2 2 (by omega), fr.2 3 (by omega)]; exact hC) (fun p hp => by rw [fr.2 _ (by omega)]; exact hit p hp)
    have ep : F_X6_put c (nI i) (nI k2) J' = some (wI J' (14 + r) i (nI k2)) := by
      rw [hc]
      exact b_pt (z := 8) (by rcases hr with rfl | rfl <;> rfl) (by rcases hr with rfl | rfl <;> rfl) hi (by omega)
    refine ⟨hlt, (k2 + 1, zB (zCand E w s r i T it) (k2 + 1), J3), ⟨rfl, rfl, ⟨_, v3⟩, fr.tr f3⟩, fun fu => ?_⟩
    rw [F_X6_itemsTold_6, if_pos ((i_lts (by omega) (by omega)).2 hlt), ep, Option.bind_some, e3, Option.bind_some, ← nI_succ, zB]
    dsimp only
    by_cases hA : zCand E w s r i T it k2
    · rw [if_pos hA, if_pos hA]
    · rw [if_neg hA, if_neg hA]
  · left
    obtain rfl : k2 = m := by omega
    refine ⟨_, ⟨J', rfl, fr⟩, fun fu => ?_⟩
    rw [F_X6_itemsTold_6, if_neg (fun q => hlt ((i_lts (by omega) (by omega)).1 q))]
theorem t_texts (hh : h < 4) (hn : n ≤ 6) {J0 : zzJ} (vv : zVe w (zW 14 J0)) (h4 : w 0 4 = nI s) (hs : s ≤ 8) (hn1 : J0.2 1 3 = nI n) (hC : zTxC E n (J0.2 2) (J0.2 3)) (hit : ∀ p, p < s → J0.2 (39 + 2 * h) p = it p) : ∃ J1, F_X6_textsTold (38 + 2 * h) J0 = some (zB (zCand E w s 0 3 (fun v => v) it) n, J1) ∧ zFrC J0 J1 := by
  refine zLoop (G := fun fu (p : Nat × Int32 × zzJ) => F_X6_textsTold_4 fu (38 + 2 * h) p.2.1 (nI p.1) p.2.2) (P := fun k p => p.1 = k ∧ p.2.1 = zB (zCand E w s 0 3 (fun v => v) it) k ∧ (∃ cur, zVe (zWr w 0 3 cur) (zW 14 p.2.2)) ∧ zFrC J0 p.2.2) (Q := fun r' => ∃ J1, r' = some (zB (zCand E w s 0 3 (fun v => v) it) n, J1) ∧ zFrC J0 J1) (s := n) ?_ n 0 (0, 0, J0) (by omega) ⟨rfl, rfl, ⟨w 0 3, by rw [zWr_id]; exact vv⟩, zFrC.rf⟩ 4096 (by omega)
  rintro k ⟨k2, l, J'⟩ hk ⟨rfl, hl, ⟨cur, v'⟩, fr⟩
  dsimp only at hk hl v' fr ⊢
  subst hl
  have hn1' : J'.2 1 3 = nI n := by rw [fr.2 1 (by omega)]; exact hn1
  by_cases hlt : k2 < n
  · right
    obtain ⟨J3, e3, v3, f3⟩ := t_cand (r := 0) (i := 3) (T := fun v => v) (v := k2) (it := it) hh (by omega) v' h4 (by omega) hs zWr_s hlt (by rw [fr.2 2 (by omega), fr.2 3 (by omega)]; exact hC) (fun p hp => by rw [fr.2 _ (by omega)]; exact hit p hp)
    refine ⟨hlt, (k2 + 1, zB (zCand E w s 0 3 (fun v => v) it) (k2 + 1), J3), ⟨rfl, rfl, ⟨_, v3⟩, fr.tr f3⟩, fun fu => ?_⟩
    have e3' : F_X0_otherwise 14 (38 + 2 * h) (wI J' 14 3 (nI k2)) = some (zUnl E (zWr w 0 3 (nI k2)) k2 s it, J3) := e3
    rw [F_X6_textsTold_4, hn1', if_pos ((i_lts (by omega) (by omega)).2 hlt), e3', Option.bind_some, ← nI_succ, zB]
    dsimp only
    by_cases hA : zCand E w s 0 3 (fun v => v) it k2
    · rw [if_pos hA, if_pos hA]
    · rw [if_neg hA, if_neg hA]
  · left
    obtain rfl : k2 = n := by omega
    refine ⟨_, ⟨J', rfl, fr⟩, fun fu => ?_⟩
    rw [F_X6_textsTold_4, hn1', if_neg (fun q => hlt ((i_lts (by omega) (by omega)).1 q))]
theorem t_miles (hh : h < 4) {J0 : zzJ} (vv : zVe w (zW 14 J0)) (h4 : w 0 4 = nI s) (hs : s ≤ 8) (ht : w 0 3 = nI t) (htn : t < n) (hC : zTxC E n (J0.2 2) (J0.2 3)) (hit : ∀ p, p < s → J0.2 (39 + 2 * h) p = it p) : ∃ J1, F_X6_milesTold (38 + 2 * h) J0 = some (zCn (zCand E w s 0 1 (fun _ => t) it) 100, J1) ∧ zFrC J0 J1 := by
  refine zLoop (G := fun fu (p : Nat × Int32 × zzJ) => F_X6_milesTold_4 fu (38 + 2 * h) p.2.1 (nI p.1) p.2.2) (P := fun k p => p.1 = k ∧ p.2.1 = zCn (zCand E w s 0 1 (fun _ => t) it) k ∧ (∃ cur, zVe (zWr w 0 1 cur) (zW 14 p.2.2)) ∧ zFrC J0 p.2.2) (Q := fun r' => ∃ J1, r' = some (zCn (zCand E w s 0 1 (fun _ => t) it) 100, J1) ∧ zFrC J0 J1) (s := 100) ?_ 100 0 (0, 0, J0) (by omega) ⟨rfl, rfl, ⟨w 0 1, by rw [zWr_id]; exact vv⟩, zFrC.rf⟩ 4096 (by omega)
  rintro k ⟨k2, l, J'⟩ hk ⟨rfl, hl, ⟨cur, v'⟩, fr⟩
  dsimp only at hk hl v' fr ⊢
  subst hl
  have lt99 : (99 : Int32) < nI k2 ↔ ¬ k2 < 100 := by rw [i_lt, i_nI (by omega)]; show (99 : Int) < k2 ↔ _; omega
  by_cases hlt : k2 < 100
  · right
    obtain ⟨J3, e3, v3, f3⟩ := t_cand (r := 0) (i := 1) (T := fun _ => t) (v := k2) (it := it) hh (by omega) v' h4 (by omega) hs ((zWr_o (by omega)).trans ht) htn (by rw [fr.2 2 (by omega), fr.2 3 (by omega)]; exact hC) (fun p hp => by rw [fr.2 _ (by omega)]; exact hit p hp)
    refine ⟨hlt, (k2 + 1, zCn (zCand E w s 0 1 (fun _ => t) it) (k2 + 1), J3), ⟨rfl, rfl, ⟨_, v3⟩, fr.tr f3⟩, fun fu => ?_⟩
    have e3' : F_X0_otherwise 14 (38 + 2 * h) (wI J' 14 1 (nI k2)) = some (zUnl E (zWr w 0 1 (nI k2)) t s it, J3) := e3
    rw [F_X6_milesTold_4, if_neg (fun q => lt99.1 q hlt), e3', Option.bind_some, ← nI_succ, zCn]
    dsimp only
    by_cases hA : zCand E w s 0 1 (fun _ => t) it k2
    · rw [if_pos hA, if_pos hA]
    · rw [if_neg hA, if_neg hA]
  · left
    obtain rfl : k2 = 100 := by omega
    refine ⟨_, ⟨J', rfl, fr⟩, fun fu => ?_⟩
    rw [F_X6_milesTold_4, if_pos (lt99.2 hlt)]
theorem t_least (hh : h < 4) {J0 : zzJ} (vv : zVe w (zW 14 J0)) (h4 : w 0 4 = nI s) (hs : s ≤ 8) (ht : w 0 3 = nI t) (htn : t < n) (hC : zTxC E n (J0.2 2) (J0.2 3)) (hit : ∀ p, p < s → J0.2 (39 + 2 * h) p = it p) : ∃ J1, F_X6_leastMileTold (38 + 2 * h) J0 = some (zFs (zCand E w s 0 1 (fun _ => t) it) 0 100, J1) ∧ zFrC J0 J1 := by
  generalize hT : zFs (zCand E w s 0 1 (fun _ => t) it) 0 100 = T
  refine zLoop (G := fun fu (p : Nat × zzJ) => F_X6_leastMileTold_2 fu (38 + 2 * h) (nI p.1) p.2) (P := fun k p => p.1 = k ∧ zFs (zCand E w s 0 1 (fun _ => t) it) k (100 - k) = T ∧ (∃ cur, zVe (zWr w 0 1 cur) (zW 14 p.2)) ∧ zFrC J0 p.2) (Q := fun r' => ∃ J1, r' = some (T, J1) ∧ zFrC J0 J1) (s := 100) ?_ 100 0 (0, J0) (by omega) ⟨rfl, hT, ⟨w 0 1, by rw [zWr_id]; exact vv⟩, zFrC.rf⟩ 4096 (by omega)
  rintro k ⟨k2, J'⟩ hk ⟨rfl, hP, ⟨cur, v'⟩, fr⟩
  dsimp only at hk hP v' fr ⊢
  have lt99 : (99 : Int32) < nI k2 ↔ ¬ k2 < 100 := by rw [i_lt, i_nI (by omega)]; show (99 : Int) < k2 ↔ _; omega
  by_cases hlt : k2 < 100
  · obtain ⟨J3, e3, v3, f3⟩ := t_cand (r := 0) (i := 1) (T := fun _ => t) (v := k2) (it := it) hh (by omega) v' h4 (by omega) hs ((zWr_o (by omega)).trans ht) htn (by rw [fr.2 2 (by omega), fr.2 3 (by omega)]; exact hC) (fun p hp => by rw [fr.2 _ (by omega)]; exact hit p hp)
    have e3' : F_X0_otherwise 14 (38 + 2 * h) (wI J' 14 1 (nI k2)) = some (zUnl E (zWr w 0 1 (nI k2)) t s it, J3) := e3
    rw [show 100 - k2 = (100 - (k2 + 1)) + 1 by omega, zFs] at hP
    by_cases hA : zCand E w s 0 1 (fun _ => t) it k2
    · left
      rw [if_pos hA] at hP
      refine ⟨_, ⟨J3, rfl, fr.tr f3⟩, fun fu => ?_⟩
      rw [F_X6_leastMileTold_2, if_neg (fun q => lt99.1 q hlt), e3', Option.bind_some]
      dsimp only
      rw [if_pos hA, hP]
    · right
      rw [if_neg hA] at hP
      refine ⟨hlt, (k2 + 1, J3), ⟨rfl, hP, ⟨_, v3⟩, fr.tr f3⟩, fun fu => ?_⟩
      rw [F_X6_leastMileTold_2, if_neg (fun q => lt99.1 q hlt), e3', Option.bind_some, ← nI_succ]
      dsimp only
      rw [if_neg hA]
  · left
    rw [show 100 - k2 = 0 by omega] at hP
    refine ⟨_, ⟨J', rfl, fr⟩, fun fu => ?_⟩
    rw [F_X6_leastMileTold_2, if_pos (lt99.2 hlt), ← hP]
    rfl
abbrev zCseat (E : zEv2) (w : zVw) (t s i : Nat) (it : Nat → Int32) (k : Nat) : Prop := zCo1 w i k ∧ zUnl E (zMv w i (nI k)) t s it = 0
theorem t_seatsT (hh : h < 4) (hi : i < s) {J0 : zzJ} (g : zGoodV w s) (c0 : zCx E n w J0) (vv : zVe w (zW 14 J0)) (ht : w 0 3 = nI t) (htn : t < n) (hit : ∀ p, p < s → J0.2 (39 + 2 * h) p = it p) : ∃ J1, F_X6_seatsTold (38 + 2 * h) (nI i) J0 = some (zB (zCseat E w t s i it) 24, J1) ∧ zFrC J0 J1 := by
  have h8 := g.1
  refine zLoop (G := fun fu (p : Nat × Int32 × zzJ) => F_X6_seatsTold_5 fu (38 + 2 * h) (nI i) p.2.1 (nI p.1) p.2.2) (P := fun k p => p.1 = k ∧ p.2.1 = zB (zCseat E w t s i it) k ∧ (∃ qc, zOpen w i qc ∧ zVe (zMv w i qc) (zW 14 p.2.2)) ∧ zFrC J0 p.2.2) (Q := fun r' => ∃ J1, r' = some (zB (zCseat E w t s i it) 24, J1) ∧ zFrC J0 J1) (s := 24) ?_ 24 0 (0, 0, J0) (by omega) ⟨rfl, rfl, ⟨w 4 i, zOwn_open g hi, (zMv_own g hi).tr vv⟩, zFrC.rf⟩ 4096 (by omega)
  rintro k ⟨k2, l, J'⟩ hk ⟨rfl, hl, ⟨qc, ho, v'⟩, fr⟩
  dsimp only at hk hl v' fr ⊢
  subst hl
  have c' := c0.fr fr
  by_cases hlt : k2 < 24
  · right
    have so : F_X0_isOpen 7 (nI k2) (nI i) J' = some (zOne (zCo1 w i k2), J') := by
      rw [cw_isOpen zC7, zVe_sit c'.1]
      have : zSit w (nI k2) = w 5 k2 := zIt_nI (by omega) (by omega)
      rw [this]
    by_cases hC : zCo1 w i k2
    · obtain ⟨J3, e3, v3, f3⟩ := t_mvt (q := nI k2) v' (zMv_good g hi ho) hi (Or.inr ⟨k2, hlt, rfl⟩)
      have v3' : zVe (zMv w i (nI k2)) (zW 14 J3) := (zMv_mv g hi ho).sy.tr v3
      have c3 := c'.fr f3
      obtain ⟨J4, e4, v4, f4⟩ := t_other (it := it) (s := s) (t := t) hh v3' ((congrFun (zMv_0 (by omega)) 4).trans g.2.1) h8 ((congrFun (zMv_0 (by omega)) 3).trans ht) htn c3.2 (fun p hp => by rw [f3.2 _ (by omega), fr.2 _ (by omega)]; exact hit p hp)
      refine ⟨hlt, (k2 + 1, zB (zCseat E w t s i it) (k2 + 1), J4), ⟨rfl, rfl, ⟨nI k2, Or.inr ⟨k2, hlt, rfl, hC⟩, v4⟩, (fr.tr f3).tr f4⟩, fun fu => ?_⟩
      rw [F_X6_seatsTold_5, if_pos ((i_lt24 (by omega)).2 hlt), so, Option.bind_some, zOne_t hC]
      refine (if_neg n10).trans ?_
      dsimp only
      rw [e3, Option.bind_some, e4, Option.bind_some, ← nI_succ, zB]
      dsimp only
      by_cases hU : zUnl E (zMv w i (nI k2)) t s it = 0
      · rw [if_pos hU, if_pos ⟨hC, hU⟩]
      · rw [if_neg hU, if_neg (fun q => hU q.2)]
    · refine ⟨hlt, (k2 + 1, zB (zCseat E w t s i it) (k2 + 1), J'), ⟨rfl, rfl, ⟨qc, ho, v'⟩, fr⟩, fun fu => ?_⟩
      rw [F_X6_seatsTold_5, if_pos ((i_lt24 (by omega)).2 hlt), so, Option.bind_some, zOne_f hC]
      refine (if_pos rfl).trans ?_
      dsimp only
      rw [← nI_succ, zB, if_neg (fun q => hC q.1)]
  · left
    obtain rfl : k2 = 24 := by omega
    refine ⟨_, ⟨J', rfl, fr⟩, fun fu => ?_⟩
    rw [F_X6_seatsTold_5, if_neg (fun q => hlt ((i_lt24 (by omega)).1 q))]
end TL
