/-! the law's loop, for every script -/
theorem L_f (L : Nat) (h : L < 3073) : ¬ Int64.ofNat L < 0 ∧ (Int64.ofNat L).toNatClampNeg = L := by
  have e : (Int64.ofNat L).toInt = L := Int64.toInt_ofNat_of_lt (by omega)
  have e0 : (0 : Int64).toInt = 0 := rfl
  refine ⟨?_, ?_⟩
  · rw [Int64.lt_iff_toInt_lt, e, e0]
    omega
  · show (Int64.ofNat L).toInt.toNat = L
    rw [e]
    rfl
theorem lgc_s (a : Int64) : lg_cmp a a = 0 := by
  unfold lg_cmp
  simp
def zOps (c : Nat) : List Int32 := (List.range c).map nI
theorem zOps_s {c : Nat} {P : Int32 → Prop} (h : ∀ v, v ∈ zOps c → P v) (h2 : P (nI c)) : ∀ v, v ∈ zOps (c + 1) → P v := by
  intro v hv
  unfold zOps at hv h
  rw [List.range_succ, List.map_append] at hv
  rcases List.mem_append.1 hv with q | q
  · exact h v q
  · rw [List.mem_singleton.1 q]; exact h2
theorem end_iff {L k : Nat} (hL : L ≤ 3072) (hk : k ≤ 4000) : Int32.ofNat L - 6 < nI (6 * k) ↔ L < 6 * k + 6 := by
  rw [i_lt, show (6 : Int32) = nI 6 from rfl, show Int32.ofNat L = nI L from rfl, pk_sub_toInt (by omega) (by omega), i_nI (by omega)]
  omega
theorem at_f {L k : Nat} (hL : L ≤ 3072) (hk : 6 * k + 6 ≤ L) : ¬ Int32.ofNat L - 6 < nI (6 * k) ∧ nI (6 * k) + (6 : Int32) = nI (6 * (k + 1)) ∧ zzIx (nI (6 * k)) L ∧ (nI (6 * k)).toNatClampNeg = 6 * k ∧ ∀ c, c < 6 → nI (6 * k) + nI c = nI (6 * k + c) ∧ zzIx (nI (6 * k + c)) L ∧ (nI (6 * k + c)).toNatClampNeg = 6 * k + c :=
  ⟨fun q => by have := (end_iff hL (by omega)).1 q; omega, nI_add _ _, i_ix (by omega) (by omega), i_cm (by omega), fun c hc => ⟨nI_add _ _, i_ix (by omega) (by omega), i_cm (by omega)⟩⟩
section RU
variable {L : Nat} {xs : Nat → Int32} {E : zEv2} {s t n z : Nat} {J J1 J2 : zzJ}
/-- the script at a step -/
abbrev zAt (L : Nat) (xs : Nat → Int32) (k : Nat) (J : zzJ) : Prop := ∃ J2, (∃ E s t n z, zInv L xs E s t n z J2) ∧ ∀ fu, F_L_law_18 (fu + 1) (nI (6 * k)) J = F_L_law_18 fu (nI (6 * (k + 1))) J2
theorem st_set (hL : L ≤ 3072) (k : Nat) (hk : 6 * k + 6 ≤ L) (I : zInv L xs E s t n z J) (hc : xs (6 * k) &&& 31 = 0) : zAt L xs k J := by
  obtain ⟨v, J1, J2, e1, e2, E', s', t', n', z', I', A1⟩ : zAns L xs (F_X6_set (xs (6 * k + 1)) (xs (6 * k + 2)) (xs (6 * k + 3))) (F_X7_set (xs (6 * k + 1)) (xs (6 * k + 2)) (xs (6 * k + 3))) J := c_set I
  refine ⟨J2, ⟨E', s', t', n', z', I'⟩, fun fu => ?_⟩
  obtain ⟨l1, l2⟩ := L_f L (by omega)
  obtain ⟨hend, p6, i0, c0, px⟩ := at_f hL hk
  rw [F_L_law_18]
  obtain ⟨q1, x1, y1⟩ : nI (6 * k) + (1 : Int32) = nI (6 * k + 1) ∧ zzIx (nI (6 * k + 1)) L ∧ (nI (6 * k + 1)).toNatClampNeg = 6 * k + 1 := px 1 (by omega)
  obtain ⟨q2, x2, y2⟩ : nI (6 * k) + (2 : Int32) = nI (6 * k + 2) ∧ zzIx (nI (6 * k + 2)) L ∧ (nI (6 * k + 2)).toNatClampNeg = 6 * k + 2 := px 2 (by omega)
  obtain ⟨q3, x3, y3⟩ : nI (6 * k) + (3 : Int32) = nI (6 * k + 3) ∧ zzIx (nI (6 * k + 3)) L ∧ (nI (6 * k + 3)).toNatClampNeg = 6 * k + 3 := px 3 (by omega)
  simp only [I.1.1, I.1.2, A1.1, A1.2, l2, if_pos l1, if_neg hend, if_pos i0, c0, if_pos hc, q1, if_pos x1, y1, q2, if_pos x2, y2, q3, if_pos x3, y3, e1, e2, Option.bind_some, p6, if_true]
theorem st_passenger (hL : L ≤ 3072) (k : Nat) (hk : 6 * k + 6 ≤ L) (I : zInv L xs E s t n z J) (hn : ∀ v : Int32, v ∈ zOps 1 → ¬ xs (6 * k) &&& 31 = v) (hc : xs (6 * k) &&& 31 = 1) : zAt L xs k J := by
  obtain ⟨v, J1, J2, e1, e2, E', s', t', n', z', I', A1⟩ : zAns L xs (F_X6_passenger (xs (6 * k + 1)) (xs (6 * k + 2))) (F_X7_passenger (xs (6 * k + 1)) (xs (6 * k + 2))) J := c_passenger I
  refine ⟨J2, ⟨E', s', t', n', z', I'⟩, fun fu => ?_⟩
  obtain ⟨l1, l2⟩ := L_f L (by omega)
  obtain ⟨hend, p6, i0, c0, px⟩ := at_f hL hk
  rw [F_L_law_18]
  obtain ⟨q1, x1, y1⟩ : nI (6 * k) + (1 : Int32) = nI (6 * k + 1) ∧ zzIx (nI (6 * k + 1)) L ∧ (nI (6 * k + 1)).toNatClampNeg = 6 * k + 1 := px 1 (by omega)
  obtain ⟨q2, x2, y2⟩ : nI (6 * k) + (2 : Int32) = nI (6 * k + 2) ∧ zzIx (nI (6 * k + 2)) L ∧ (nI (6 * k + 2)).toNatClampNeg = 6 * k + 2 := px 2 (by omega)
  simp only [I.1.1, I.1.2, A1.1, A1.2, l2, if_pos l1, if_neg hend, if_pos i0, c0, if_neg (hn 0 (by decide)), if_pos hc, q1, if_pos x1, y1, q2, if_pos x2, y2, e1, e2, Option.bind_some, p6, if_true]
theorem st_sit (hL : L ≤ 3072) (k : Nat) (hk : 6 * k + 6 ≤ L) (I : zInv L xs E s t n z J) (hn : ∀ v : Int32, v ∈ zOps 2 → ¬ xs (6 * k) &&& 31 = v) (hc : xs (6 * k) &&& 31 = 2) : zAt L xs k J := by
  obtain ⟨v, J1, J2, e1, e2, E', s', t', n', z', I', A1⟩ : zAns L xs (F_X6_sit (xs (6 * k + 1)) (xs (6 * k + 2))) (F_X7_sit (xs (6 * k + 1)) (xs (6 * k + 2))) J := c_sit I
  refine ⟨J2, ⟨E', s', t', n', z', I'⟩, fun fu => ?_⟩
  obtain ⟨l1, l2⟩ := L_f L (by omega)
  obtain ⟨hend, p6, i0, c0, px⟩ := at_f hL hk
  rw [F_L_law_18]
  obtain ⟨q1, x1, y1⟩ : nI (6 * k) + (1 : Int32) = nI (6 * k + 1) ∧ zzIx (nI (6 * k + 1)) L ∧ (nI (6 * k + 1)).toNatClampNeg = 6 * k + 1 := px 1 (by omega)
  obtain ⟨q2, x2, y2⟩ : nI (6 * k) + (2 : Int32) = nI (6 * k + 2) ∧ zzIx (nI (6 * k + 2)) L ∧ (nI (6 * k + 2)).toNatClampNeg = 6 * k + 2 := px 2 (by omega)
  simp only [I.1.1, I.1.2, A1.1, A1.2, l2, if_pos l1, if_neg hend, if_pos i0, c0, if_neg (hn 0 (by decide)), if_neg (hn 1 (by decide)), if_pos hc, q1, if_pos x1, y1, q2, if_pos x2, y2, e1, e2, Option.bind_some, p6, if_true]
theorem st_told (hL : L ≤ 3072) (k : Nat) (hk : 6 * k + 6 ≤ L) (I : zInv L xs E s t n z J) (hn : ∀ v : Int32, v ∈ zOps 3 → ¬ xs (6 * k) &&& 31 = v) (hc : xs (6 * k) &&& 31 = 3) : zAt L xs k J := by
  obtain ⟨v, J1, J2, e1, e2, E', s', t', n', z', I', A1⟩ : zAns L xs (F_X6_told (xs (6 * k + 1)) (xs (6 * k + 2))) (F_X7_told (xs (6 * k + 1)) (xs (6 * k + 2))) J := c_told I
  refine ⟨J2, ⟨E', s', t', n', z', I'⟩, fun fu => ?_⟩
  obtain ⟨l1, l2⟩ := L_f L (by omega)
  obtain ⟨hend, p6, i0, c0, px⟩ := at_f hL hk
  rw [F_L_law_18]
  obtain ⟨q1, x1, y1⟩ : nI (6 * k) + (1 : Int32) = nI (6 * k + 1) ∧ zzIx (nI (6 * k + 1)) L ∧ (nI (6 * k + 1)).toNatClampNeg = 6 * k + 1 := px 1 (by omega)
  obtain ⟨q2, x2, y2⟩ : nI (6 * k) + (2 : Int32) = nI (6 * k + 2) ∧ zzIx (nI (6 * k + 2)) L ∧ (nI (6 * k + 2)).toNatClampNeg = 6 * k + 2 := px 2 (by omega)
  simp only [I.1.1, I.1.2, A1.1, A1.2, l2, if_pos l1, if_neg hend, if_pos i0, c0, if_neg (hn 0 (by decide)), if_neg (hn 1 (by decide)), if_neg (hn 2 (by decide)), if_pos hc, q1, if_pos x1, y1, q2, if_pos x2, y2, e1, e2, Option.bind_some, p6, if_true]
theorem st_who (hL : L ≤ 3072) (k : Nat) (hk : 6 * k + 6 ≤ L) (I : zInv L xs E s t n z J) (hn : ∀ v : Int32, v ∈ zOps 4 → ¬ xs (6 * k) &&& 31 = v) (hc : xs (6 * k) &&& 31 = 4) : zAt L xs k J := by
  obtain ⟨v, J1, J2, e1, e2, E', s', t', n', z', I', A1⟩ : zAns L xs (F_X6_who (xs (6 * k + 1))) (F_X7_who (xs (6 * k + 1))) J := c_who I
  refine ⟨J2, ⟨E', s', t', n', z', I'⟩, fun fu => ?_⟩
  obtain ⟨l1, l2⟩ := L_f L (by omega)
  obtain ⟨hend, p6, i0, c0, px⟩ := at_f hL hk
  rw [F_L_law_18]
  obtain ⟨q1, x1, y1⟩ : nI (6 * k) + (1 : Int32) = nI (6 * k + 1) ∧ zzIx (nI (6 * k + 1)) L ∧ (nI (6 * k + 1)).toNatClampNeg = 6 * k + 1 := px 1 (by omega)
  simp only [I.1.1, I.1.2, A1.1, A1.2, l2, if_pos l1, if_neg hend, if_pos i0, c0, if_neg (hn 0 (by decide)), if_neg (hn 1 (by decide)), if_neg (hn 2 (by decide)), if_neg (hn 3 (by decide)), if_pos hc, q1, if_pos x1, y1, e1, e2, Option.bind_some, p6, if_true]
theorem st_feed (hL : L ≤ 3072) (k : Nat) (hk : 6 * k + 6 ≤ L) (I : zInv L xs E s t n z J) (hn : ∀ v : Int32, v ∈ zOps 5 → ¬ xs (6 * k) &&& 31 = v) (hc : xs (6 * k) &&& 31 = 5) : zAt L xs k J := by
  obtain ⟨v, J1, J2, e1, e2, E', s', t', n', z', I', A1⟩ : zAns L xs (F_X6_feed (xs (6 * k + 1))) (F_X7_feed (xs (6 * k + 1))) J := c_feed I
  refine ⟨J2, ⟨E', s', t', n', z', I'⟩, fun fu => ?_⟩
  obtain ⟨l1, l2⟩ := L_f L (by omega)
  obtain ⟨hend, p6, i0, c0, px⟩ := at_f hL hk
  rw [F_L_law_18]
  obtain ⟨q1, x1, y1⟩ : nI (6 * k) + (1 : Int32) = nI (6 * k + 1) ∧ zzIx (nI (6 * k + 1)) L ∧ (nI (6 * k + 1)).toNatClampNeg = 6 * k + 1 := px 1 (by omega)
  simp only [I.1.1, I.1.2, A1.1, A1.2, l2, if_pos l1, if_neg hend, if_pos i0, c0, if_neg (hn 0 (by decide)), if_neg (hn 1 (by decide)), if_neg (hn 2 (by decide)), if_neg (hn 3 (by decide)), if_neg (hn 4 (by decide)), if_pos hc, q1, if_pos x1, y1, e1, e2, Option.bind_some, p6, if_true]
theorem st_text (hL : L ≤ 3072) (k : Nat) (hk : 6 * k + 6 ≤ L) (I : zInv L xs E s t n z J) (hn : ∀ v : Int32, v ∈ zOps 6 → ¬ xs (6 * k) &&& 31 = v) (hc : xs (6 * k) &&& 31 = 6) : zAt L xs k J := by
  obtain ⟨v, J1, J2, e1, e2, E', s', t', n', z', I', A1⟩ : zAns L xs (F_X6_text) (F_X7_text) J := c_text I
  refine ⟨J2, ⟨E', s', t', n', z', I'⟩, fun fu => ?_⟩
  obtain ⟨l1, l2⟩ := L_f L (by omega)
  obtain ⟨hend, p6, i0, c0, px⟩ := at_f hL hk
  rw [F_L_law_18]
  simp only [I.1.1, I.1.2, A1.1, A1.2, l2, if_pos l1, if_neg hend, if_pos i0, c0, if_neg (hn 0 (by decide)), if_neg (hn 1 (by decide)), if_neg (hn 2 (by decide)), if_neg (hn 3 (by decide)), if_neg (hn 4 (by decide)), if_neg (hn 5 (by decide)), if_pos hc, e1, e2, Option.bind_some, p6, if_true]
theorem st_force (hL : L ≤ 3072) (k : Nat) (hk : 6 * k + 6 ≤ L) (I : zInv L xs E s t n z J) (hn : ∀ v : Int32, v ∈ zOps 7 → ¬ xs (6 * k) &&& 31 = v) (hc : xs (6 * k) &&& 31 = 7) : zAt L xs k J := by
  obtain ⟨v, J1, J2, e1, e2, E', s', t', n', z', I', A1⟩ : zAns L xs (F_X6_force (xs (6 * k + 1))) (F_X7_force (xs (6 * k + 1))) J := c_force I
  refine ⟨J2, ⟨E', s', t', n', z', I'⟩, fun fu => ?_⟩
  obtain ⟨l1, l2⟩ := L_f L (by omega)
  obtain ⟨hend, p6, i0, c0, px⟩ := at_f hL hk
  rw [F_L_law_18]
  obtain ⟨q1, x1, y1⟩ : nI (6 * k) + (1 : Int32) = nI (6 * k + 1) ∧ zzIx (nI (6 * k + 1)) L ∧ (nI (6 * k + 1)).toNatClampNeg = 6 * k + 1 := px 1 (by omega)
  simp only [I.1.1, I.1.2, A1.1, A1.2, l2, if_pos l1, if_neg hend, if_pos i0, c0, if_neg (hn 0 (by decide)), if_neg (hn 1 (by decide)), if_neg (hn 2 (by decide)), if_neg (hn 3 (by decide)), if_neg (hn 4 (by decide)), if_neg (hn 5 (by decide)), if_neg (hn 6 (by decide)), if_pos hc, q1, if_pos x1, y1, e1, e2, Option.bind_some, p6, if_true]
theorem st_all (hL : L ≤ 3072) (k : Nat) (hk : 6 * k + 6 ≤ L) (I : zInv L xs E s t n z J) (hn : ∀ v : Int32, v ∈ zOps 8 → ¬ xs (6 * k) &&& 31 = v) (hc : xs (6 * k) &&& 31 = 8) : zAt L xs k J := by
  obtain ⟨v, J1, J2, e1, e2, E', s', t', n', z', I', A1⟩ : zAns L xs (F_X6_all (xs (6 * k + 1))) (F_X7_all (xs (6 * k + 1))) J := c_all I
  refine ⟨J2, ⟨E', s', t', n', z', I'⟩, fun fu => ?_⟩
  obtain ⟨l1, l2⟩ := L_f L (by omega)
  obtain ⟨hend, p6, i0, c0, px⟩ := at_f hL hk
  rw [F_L_law_18]
  obtain ⟨q1, x1, y1⟩ : nI (6 * k) + (1 : Int32) = nI (6 * k + 1) ∧ zzIx (nI (6 * k + 1)) L ∧ (nI (6 * k + 1)).toNatClampNeg = 6 * k + 1 := px 1 (by omega)
  simp only [I.1.1, I.1.2, A1.1, A1.2, l2, if_pos l1, if_neg hend, if_pos i0, c0, if_neg (hn 0 (by decide)), if_neg (hn 1 (by decide)), if_neg (hn 2 (by decide)), if_neg (hn 3 (by decide)), if_neg (hn 4 (by decide)), if_neg (hn 5 (by decide)), if_neg (hn 6 (by decide)), if_neg (hn 7 (by decide)), if_pos hc, q1, if_pos x1, y1, e1, e2, Option.bind_some, p6, if_true]
theorem st_ride (hL : L ≤ 3072) (k : Nat) (hk : 6 * k + 6 ≤ L) (I : zInv L xs E s t n z J) (hn : ∀ v : Int32, v ∈ zOps 9 → ¬ xs (6 * k) &&& 31 = v) (hc : xs (6 * k) &&& 31 = 9) : zAt L xs k J := by
  obtain ⟨v, J1, J2, e1, e2, E', s', t', n', z', I', A1⟩ : zAns L xs (F_X6_ride (xs (6 * k + 1)) (xs (6 * k + 2))) (F_X7_ride (xs (6 * k + 1)) (xs (6 * k + 2))) J := c_ride I
  refine ⟨J2, ⟨E', s', t', n', z', I'⟩, fun fu => ?_⟩
  obtain ⟨l1, l2⟩ := L_f L (by omega)
  obtain ⟨hend, p6, i0, c0, px⟩ := at_f hL hk
  rw [F_L_law_18]
  obtain ⟨q1, x1, y1⟩ : nI (6 * k) + (1 : Int32) = nI (6 * k + 1) ∧ zzIx (nI (6 * k + 1)) L ∧ (nI (6 * k + 1)).toNatClampNeg = 6 * k + 1 := px 1 (by omega)
  obtain ⟨q2, x2, y2⟩ : nI (6 * k) + (2 : Int32) = nI (6 * k + 2) ∧ zzIx (nI (6 * k + 2)) L ∧ (nI (6 * k + 2)).toNatClampNeg = 6 * k + 2 := px 2 (by omega)
  simp only [I.1.1, I.1.2, A1.1, A1.2, l2, if_pos l1, if_neg hend, if_pos i0, c0, if_neg (hn 0 (by decide)), if_neg (hn 1 (by decide)), if_neg (hn 2 (by decide)), if_neg (hn 3 (by decide)), if_neg (hn 4 (by decide)), if_neg (hn 5 (by decide)), if_neg (hn 6 (by decide)), if_neg (hn 7 (by decide)), if_neg (hn 8 (by decide)), if_pos hc, q1, if_pos x1, y1, q2, if_pos x2, y2, e1, e2, Option.bind_some, p6, if_true]
theorem st_best (hL : L ≤ 3072) (k : Nat) (hk : 6 * k + 6 ≤ L) (I : zInv L xs E s t n z J) (hn : ∀ v : Int32, v ∈ zOps 10 → ¬ xs (6 * k) &&& 31 = v) (hc : xs (6 * k) &&& 31 = 10) : zAt L xs k J := by
  obtain ⟨v, J1, J2, e1, e2, E', s', t', n', z', I', A1⟩ : zAns L xs (F_X6_best (xs (6 * k + 1)) (xs (6 * k + 2))) (F_X7_best (xs (6 * k + 1)) (xs (6 * k + 2))) J := c_best I
  refine ⟨J2, ⟨E', s', t', n', z', I'⟩, fun fu => ?_⟩
  obtain ⟨l1, l2⟩ := L_f L (by omega)
  obtain ⟨hend, p6, i0, c0, px⟩ := at_f hL hk
  rw [F_L_law_18]
  obtain ⟨q1, x1, y1⟩ : nI (6 * k) + (1 : Int32) = nI (6 * k + 1) ∧ zzIx (nI (6 * k + 1)) L ∧ (nI (6 * k + 1)).toNatClampNeg = 6 * k + 1 := px 1 (by omega)
  obtain ⟨q2, x2, y2⟩ : nI (6 * k) + (2 : Int32) = nI (6 * k + 2) ∧ zzIx (nI (6 * k + 2)) L ∧ (nI (6 * k + 2)).toNatClampNeg = 6 * k + 2 := px 2 (by omega)
  simp only [I.1.1, I.1.2, A1.1, A1.2, l2, if_pos l1, if_neg hend, if_pos i0, c0, if_neg (hn 0 (by decide)), if_neg (hn 1 (by decide)), if_neg (hn 2 (by decide)), if_neg (hn 3 (by decide)), if_neg (hn 4 (by decide)), if_neg (hn 5 (by decide)), if_neg (hn 6 (by decide)), if_neg (hn 7 (by decide)), if_neg (hn 8 (by decide)), if_neg (hn 9 (by decide)), if_pos hc, q1, if_pos x1, y1, q2, if_pos x2, y2, e1, e2, Option.bind_some, p6, if_true]
theorem st_change (hL : L ≤ 3072) (k : Nat) (hk : 6 * k + 6 ≤ L) (I : zInv L xs E s t n z J) (hn : ∀ v : Int32, v ∈ zOps 11 → ¬ xs (6 * k) &&& 31 = v) (hc : xs (6 * k) &&& 31 = 11) : zAt L xs k J := by
  obtain ⟨v, J1, J2, e1, e2, E', s', t', n', z', I', A1⟩ : zAns L xs (F_X6_change (xs (6 * k + 1))) (F_X7_change (xs (6 * k + 1))) J := c_change I
  refine ⟨J2, ⟨E', s', t', n', z', I'⟩, fun fu => ?_⟩
  obtain ⟨l1, l2⟩ := L_f L (by omega)
  obtain ⟨hend, p6, i0, c0, px⟩ := at_f hL hk
  rw [F_L_law_18]
  obtain ⟨q1, x1, y1⟩ : nI (6 * k) + (1 : Int32) = nI (6 * k + 1) ∧ zzIx (nI (6 * k + 1)) L ∧ (nI (6 * k + 1)).toNatClampNeg = 6 * k + 1 := px 1 (by omega)
  simp only [I.1.1, I.1.2, A1.1, A1.2, l2, if_pos l1, if_neg hend, if_pos i0, c0, if_neg (hn 0 (by decide)), if_neg (hn 1 (by decide)), if_neg (hn 2 (by decide)), if_neg (hn 3 (by decide)), if_neg (hn 4 (by decide)), if_neg (hn 5 (by decide)), if_neg (hn 6 (by decide)), if_neg (hn 7 (by decide)), if_neg (hn 8 (by decide)), if_neg (hn 9 (by decide)), if_neg (hn 10 (by decide)), if_pos hc, q1, if_pos x1, y1, e1, e2, Option.bind_some, p6, if_true]
theorem st_watch (hL : L ≤ 3072) (k : Nat) (hk : 6 * k + 6 ≤ L) (I : zInv L xs E s t n z J) (hn : ∀ v : Int32, v ∈ zOps 12 → ¬ xs (6 * k) &&& 31 = v) (hc : xs (6 * k) &&& 31 = 12) : zAt L xs k J := by
  obtain ⟨v, J1, J2, e1, e2, E', s', t', n', z', I', A1⟩ : zAns L xs (F_X6_watch (xs (6 * k + 1))) (F_X7_watch (xs (6 * k + 1))) J := c_watch I
  refine ⟨J2, ⟨E', s', t', n', z', I'⟩, fun fu => ?_⟩
  obtain ⟨l1, l2⟩ := L_f L (by omega)
  obtain ⟨hend, p6, i0, c0, px⟩ := at_f hL hk
  rw [F_L_law_18]
  obtain ⟨q1, x1, y1⟩ : nI (6 * k) + (1 : Int32) = nI (6 * k + 1) ∧ zzIx (nI (6 * k + 1)) L ∧ (nI (6 * k + 1)).toNatClampNeg = 6 * k + 1 := px 1 (by omega)
  simp only [I.1.1, I.1.2, A1.1, A1.2, l2, if_pos l1, if_neg hend, if_pos i0, c0, if_neg (hn 0 (by decide)), if_neg (hn 1 (by decide)), if_neg (hn 2 (by decide)), if_neg (hn 3 (by decide)), if_neg (hn 4 (by decide)), if_neg (hn 5 (by decide)), if_neg (hn 6 (by decide)), if_neg (hn 7 (by decide)), if_neg (hn 8 (by decide)), if_neg (hn 9 (by decide)), if_neg (hn 10 (by decide)), if_neg (hn 11 (by decide)), if_pos hc, q1, if_pos x1, y1, e1, e2, Option.bind_some, p6, if_true]
theorem st_hat (hL : L ≤ 3072) (k : Nat) (hk : 6 * k + 6 ≤ L) (I : zInv L xs E s t n z J) (hn : ∀ v : Int32, v ∈ zOps 13 → ¬ xs (6 * k) &&& 31 = v) (hc : xs (6 * k) &&& 31 = 13) : zAt L xs k J := by
  obtain ⟨v, J1, J2, e1, e2, E', s', t', n', z', I', A1⟩ : zAns L xs (F_X6_hat (xs (6 * k + 1)) (xs (6 * k + 2))) (F_X7_hat (xs (6 * k + 1)) (xs (6 * k + 2))) J := c_hat I
  refine ⟨J2, ⟨E', s', t', n', z', I'⟩, fun fu => ?_⟩
  obtain ⟨l1, l2⟩ := L_f L (by omega)
  obtain ⟨hend, p6, i0, c0, px⟩ := at_f hL hk
  rw [F_L_law_18]
  obtain ⟨q1, x1, y1⟩ : nI (6 * k) + (1 : Int32) = nI (6 * k + 1) ∧ zzIx (nI (6 * k + 1)) L ∧ (nI (6 * k + 1)).toNatClampNeg = 6 * k + 1 := px 1 (by omega)
  obtain ⟨q2, x2, y2⟩ : nI (6 * k) + (2 : Int32) = nI (6 * k + 2) ∧ zzIx (nI (6 * k + 2)) L ∧ (nI (6 * k + 2)).toNatClampNeg = 6 * k + 2 := px 2 (by omega)
  simp only [I.1.1, I.1.2, A1.1, A1.2, l2, if_pos l1, if_neg hend, if_pos i0, c0, if_neg (hn 0 (by decide)), if_neg (hn 1 (by decide)), if_neg (hn 2 (by decide)), if_neg (hn 3 (by decide)), if_neg (hn 4 (by decide)), if_neg (hn 5 (by decide)), if_neg (hn 6 (by decide)), if_neg (hn 7 (by decide)), if_neg (hn 8 (by decide)), if_neg (hn 9 (by decide)), if_neg (hn 10 (by decide)), if_neg (hn 11 (by decide)), if_neg (hn 12 (by decide)), if_pos hc, q1, if_pos x1, y1, q2, if_pos x2, y2, e1, e2, Option.bind_some, p6, if_true]
theorem st_front (hL : L ≤ 3072) (k : Nat) (hk : 6 * k + 6 ≤ L) (I : zInv L xs E s t n z J) (hn : ∀ v : Int32, v ∈ zOps 14 → ¬ xs (6 * k) &&& 31 = v) (hc : xs (6 * k) &&& 31 = 14) : zAt L xs k J := by
  obtain ⟨v, J1, J2, e1, e2, E', s', t', n', z', I', A1⟩ : zAns L xs (F_X6_front (xs (6 * k + 1)) (xs (6 * k + 2))) (F_X7_front (xs (6 * k + 1)) (xs (6 * k + 2))) J := c_front I
  refine ⟨J2, ⟨E', s', t', n', z', I'⟩, fun fu => ?_⟩
  obtain ⟨l1, l2⟩ := L_f L (by omega)
  obtain ⟨hend, p6, i0, c0, px⟩ := at_f hL hk
  rw [F_L_law_18]
  obtain ⟨q1, x1, y1⟩ : nI (6 * k) + (1 : Int32) = nI (6 * k + 1) ∧ zzIx (nI (6 * k + 1)) L ∧ (nI (6 * k + 1)).toNatClampNeg = 6 * k + 1 := px 1 (by omega)
  obtain ⟨q2, x2, y2⟩ : nI (6 * k) + (2 : Int32) = nI (6 * k + 2) ∧ zzIx (nI (6 * k + 2)) L ∧ (nI (6 * k + 2)).toNatClampNeg = 6 * k + 2 := px 2 (by omega)
  simp only [I.1.1, I.1.2, A1.1, A1.2, l2, if_pos l1, if_neg hend, if_pos i0, c0, if_neg (hn 0 (by decide)), if_neg (hn 1 (by decide)), if_neg (hn 2 (by decide)), if_neg (hn 3 (by decide)), if_neg (hn 4 (by decide)), if_neg (hn 5 (by decide)), if_neg (hn 6 (by decide)), if_neg (hn 7 (by decide)), if_neg (hn 8 (by decide)), if_neg (hn 9 (by decide)), if_neg (hn 10 (by decide)), if_neg (hn 11 (by decide)), if_neg (hn 12 (by decide)), if_neg (hn 13 (by decide)), if_pos hc, q1, if_pos x1, y1, q2, if_pos x2, y2, e1, e2, Option.bind_some, p6, if_true]
theorem st_stop (hL : L ≤ 3072) (k : Nat) (hk : 6 * k + 6 ≤ L) (I : zInv L xs E s t n z J) (hn : ∀ v : Int32, v ∈ zOps 15 → ¬ xs (6 * k) &&& 31 = v) (hc : xs (6 * k) &&& 31 = 15) : zAt L xs k J := by
  obtain ⟨v, J1, J2, e1, e2, E', s', t', n', z', I', A1⟩ : zAns L xs (F_X6_stop (xs (6 * k + 1)) (xs (6 * k + 2))) (F_X7_stop (xs (6 * k + 1)) (xs (6 * k + 2))) J := c_stop I
  refine ⟨J2, ⟨E', s', t', n', z', I'⟩, fun fu => ?_⟩
  obtain ⟨l1, l2⟩ := L_f L (by omega)
  obtain ⟨hend, p6, i0, c0, px⟩ := at_f hL hk
  rw [F_L_law_18]
  obtain ⟨q1, x1, y1⟩ : nI (6 * k) + (1 : Int32) = nI (6 * k + 1) ∧ zzIx (nI (6 * k + 1)) L ∧ (nI (6 * k + 1)).toNatClampNeg = 6 * k + 1 := px 1 (by omega)
  obtain ⟨q2, x2, y2⟩ : nI (6 * k) + (2 : Int32) = nI (6 * k + 2) ∧ zzIx (nI (6 * k + 2)) L ∧ (nI (6 * k + 2)).toNatClampNeg = 6 * k + 2 := px 2 (by omega)
  simp only [I.1.1, I.1.2, A1.1, A1.2, l2, if_pos l1, if_neg hend, if_pos i0, c0, if_neg (hn 0 (by decide)), if_neg (hn 1 (by decide)), if_neg (hn 2 (by decide)), if_neg (hn 3 (by decide)), if_neg (hn 4 (by decide)), if_neg (hn 5 (by decide)), if_neg (hn 6 (by decide)), if_neg (hn 7 (by decide)), if_neg (hn 8 (by decide)), if_neg (hn 9 (by decide)), if_neg (hn 10 (by decide)), if_neg (hn 11 (by decide)), if_neg (hn 12 (by decide)), if_neg (hn 13 (by decide)), if_neg (hn 14 (by decide)), if_pos hc, q1, if_pos x1, y1, q2, if_pos x2, y2, e1, e2, Option.bind_some, p6, if_true]
theorem st_tells (hL : L ≤ 3072) (k : Nat) (hk : 6 * k + 6 ≤ L) (I : zInv L xs E s t n z J) (hn : ∀ v : Int32, v ∈ zOps 16 → ¬ xs (6 * k) &&& 31 = v) (hc : xs (6 * k) &&& 31 = 16) : zAt L xs k J := by
  obtain ⟨v, J1, J2, e1, e2, E', s', t', n', z', I', A1⟩ : zAns L xs (F_X6_tells (xs (6 * k + 1)) (xs (6 * k + 2))) (F_X7_tells (xs (6 * k + 1)) (xs (6 * k + 2))) J := c_tells I
  refine ⟨J2, ⟨E', s', t', n', z', I'⟩, fun fu => ?_⟩
  obtain ⟨l1, l2⟩ := L_f L (by omega)
  obtain ⟨hend, p6, i0, c0, px⟩ := at_f hL hk
  rw [F_L_law_18]
  obtain ⟨q1, x1, y1⟩ : nI (6 * k) + (1 : Int32) = nI (6 * k + 1) ∧ zzIx (nI (6 * k + 1)) L ∧ (nI (6 * k + 1)).toNatClampNeg = 6 * k + 1 := px 1 (by omega)
  obtain ⟨q2, x2, y2⟩ : nI (6 * k) + (2 : Int32) = nI (6 * k + 2) ∧ zzIx (nI (6 * k + 2)) L ∧ (nI (6 * k + 2)).toNatClampNeg = 6 * k + 2 := px 2 (by omega)
  simp only [I.1.1, I.1.2, A1.1, A1.2, l2, if_pos l1, if_neg hend, if_pos i0, c0, if_neg (hn 0 (by decide)), if_neg (hn 1 (by decide)), if_neg (hn 2 (by decide)), if_neg (hn 3 (by decide)), if_neg (hn 4 (by decide)), if_neg (hn 5 (by decide)), if_neg (hn 6 (by decide)), if_neg (hn 7 (by decide)), if_neg (hn 8 (by decide)), if_neg (hn 9 (by decide)), if_neg (hn 10 (by decide)), if_neg (hn 11 (by decide)), if_neg (hn 12 (by decide)), if_neg (hn 13 (by decide)), if_neg (hn 14 (by decide)), if_neg (hn 15 (by decide)), if_pos hc, q1, if_pos x1, y1, q2, if_pos x2, y2, e1, e2, Option.bind_some, p6, if_true]
theorem st_film (hL : L ≤ 3072) (k : Nat) (hk : 6 * k + 6 ≤ L) (I : zInv L xs E s t n z J) (hn : ∀ v : Int32, v ∈ zOps 17 → ¬ xs (6 * k) &&& 31 = v) (hc : xs (6 * k) &&& 31 = 17) : zAt L xs k J := by
  obtain ⟨v, J1, J2, e1, e2, E', s', t', n', z', I', A1⟩ : zAns L xs (F_X6_film (xs (6 * k + 1))) (F_X7_film (xs (6 * k + 1))) J := c_film I
  refine ⟨J2, ⟨E', s', t', n', z', I'⟩, fun fu => ?_⟩
  obtain ⟨l1, l2⟩ := L_f L (by omega)
  obtain ⟨hend, p6, i0, c0, px⟩ := at_f hL hk
  rw [F_L_law_18]
  obtain ⟨q1, x1, y1⟩ : nI (6 * k) + (1 : Int32) = nI (6 * k + 1) ∧ zzIx (nI (6 * k + 1)) L ∧ (nI (6 * k + 1)).toNatClampNeg = 6 * k + 1 := px 1 (by omega)
  simp only [I.1.1, I.1.2, A1.1, A1.2, l2, if_pos l1, if_neg hend, if_pos i0, c0, if_neg (hn 0 (by decide)), if_neg (hn 1 (by decide)), if_neg (hn 2 (by decide)), if_neg (hn 3 (by decide)), if_neg (hn 4 (by decide)), if_neg (hn 5 (by decide)), if_neg (hn 6 (by decide)), if_neg (hn 7 (by decide)), if_neg (hn 8 (by decide)), if_neg (hn 9 (by decide)), if_neg (hn 10 (by decide)), if_neg (hn 11 (by decide)), if_neg (hn 12 (by decide)), if_neg (hn 13 (by decide)), if_neg (hn 14 (by decide)), if_neg (hn 15 (by decide)), if_neg (hn 16 (by decide)), if_pos hc, q1, if_pos x1, y1, e1, e2, Option.bind_some, p6, if_true]
theorem st_drawn (hL : L ≤ 3072) (k : Nat) (hk : 6 * k + 6 ≤ L) (I : zInv L xs E s t n z J) (hn : ∀ v : Int32, v ∈ zOps 18 → ¬ xs (6 * k) &&& 31 = v) (hc : xs (6 * k) &&& 31 = 18) : zAt L xs k J := by
  obtain ⟨v, J1, J2, e1, e2, E', s', t', n', z', I', A1⟩ : zAns L xs (F_X6_drawn (xs (6 * k + 1))) (F_X7_drawn (xs (6 * k + 1))) J := c_drawn I
  refine ⟨J2, ⟨E', s', t', n', z', I'⟩, fun fu => ?_⟩
  obtain ⟨l1, l2⟩ := L_f L (by omega)
  obtain ⟨hend, p6, i0, c0, px⟩ := at_f hL hk
  rw [F_L_law_18]
  obtain ⟨q1, x1, y1⟩ : nI (6 * k) + (1 : Int32) = nI (6 * k + 1) ∧ zzIx (nI (6 * k + 1)) L ∧ (nI (6 * k + 1)).toNatClampNeg = 6 * k + 1 := px 1 (by omega)
  simp only [I.1.1, I.1.2, A1.1, A1.2, l2, if_pos l1, if_neg hend, if_pos i0, c0, if_neg (hn 0 (by decide)), if_neg (hn 1 (by decide)), if_neg (hn 2 (by decide)), if_neg (hn 3 (by decide)), if_neg (hn 4 (by decide)), if_neg (hn 5 (by decide)), if_neg (hn 6 (by decide)), if_neg (hn 7 (by decide)), if_neg (hn 8 (by decide)), if_neg (hn 9 (by decide)), if_neg (hn 10 (by decide)), if_neg (hn 11 (by decide)), if_neg (hn 12 (by decide)), if_neg (hn 13 (by decide)), if_neg (hn 14 (by decide)), if_neg (hn 15 (by decide)), if_neg (hn 16 (by decide)), if_neg (hn 17 (by decide)), if_pos hc, q1, if_pos x1, y1, e1, e2, Option.bind_some, p6, if_true]
theorem st_chance (hL : L ≤ 3072) (k : Nat) (hk : 6 * k + 6 ≤ L) (I : zInv L xs E s t n z J) (hn : ∀ v : Int32, v ∈ zOps 19 → ¬ xs (6 * k) &&& 31 = v) (hc : xs (6 * k) &&& 31 = 19) : zAt L xs k J := by
  obtain ⟨v, J1, J2, e1, e2, E', s', t', n', z', I', A1⟩ : zAns L xs (F_X6_chance (xs (6 * k + 1)) (xs (6 * k + 2)) (xs (6 * k + 3))) (F_X7_chance (xs (6 * k + 1)) (xs (6 * k + 2)) (xs (6 * k + 3))) J := c_chance I
  refine ⟨J2, ⟨E', s', t', n', z', I'⟩, fun fu => ?_⟩
  obtain ⟨l1, l2⟩ := L_f L (by omega)
  obtain ⟨hend, p6, i0, c0, px⟩ := at_f hL hk
  rw [F_L_law_18]
  obtain ⟨q1, x1, y1⟩ : nI (6 * k) + (1 : Int32) = nI (6 * k + 1) ∧ zzIx (nI (6 * k + 1)) L ∧ (nI (6 * k + 1)).toNatClampNeg = 6 * k + 1 := px 1 (by omega)
  obtain ⟨q2, x2, y2⟩ : nI (6 * k) + (2 : Int32) = nI (6 * k + 2) ∧ zzIx (nI (6 * k + 2)) L ∧ (nI (6 * k + 2)).toNatClampNeg = 6 * k + 2 := px 2 (by omega)
  obtain ⟨q3, x3, y3⟩ : nI (6 * k) + (3 : Int32) = nI (6 * k + 3) ∧ zzIx (nI (6 * k + 3)) L ∧ (nI (6 * k + 3)).toNatClampNeg = 6 * k + 3 := px 3 (by omega)
  simp only [I.1.1, I.1.2, A1.1, A1.2, l2, if_pos l1, if_neg hend, if_pos i0, c0, if_neg (hn 0 (by decide)), if_neg (hn 1 (by decide)), if_neg (hn 2 (by decide)), if_neg (hn 3 (by decide)), if_neg (hn 4 (by decide)), if_neg (hn 5 (by decide)), if_neg (hn 6 (by decide)), if_neg (hn 7 (by decide)), if_neg (hn 8 (by decide)), if_neg (hn 9 (by decide)), if_neg (hn 10 (by decide)), if_neg (hn 11 (by decide)), if_neg (hn 12 (by decide)), if_neg (hn 13 (by decide)), if_neg (hn 14 (by decide)), if_neg (hn 15 (by decide)), if_neg (hn 16 (by decide)), if_neg (hn 17 (by decide)), if_neg (hn 18 (by decide)), if_pos hc, q1, if_pos x1, y1, q2, if_pos x2, y2, q3, if_pos x3, y3, e1, e2, Option.bind_some, p6, lgc_s, if_true]
theorem st_image (hL : L ≤ 3072) (k : Nat) (hk : 6 * k + 6 ≤ L) (I : zInv L xs E s t n z J) (hn : ∀ v : Int32, v ∈ zOps 20 → ¬ xs (6 * k) &&& 31 = v) (hc : xs (6 * k) &&& 31 = 20) : zAt L xs k J := by
  obtain ⟨v, J1, J2, e1, e2, E', s', t', n', z', I', A1⟩ : zAns L xs (F_X6_image) (F_X7_image) J := c_image I
  refine ⟨J2, ⟨E', s', t', n', z', I'⟩, fun fu => ?_⟩
  obtain ⟨l1, l2⟩ := L_f L (by omega)
  obtain ⟨hend, p6, i0, c0, px⟩ := at_f hL hk
  rw [F_L_law_18]
  simp only [I.1.1, I.1.2, A1.1, A1.2, l2, if_pos l1, if_neg hend, if_pos i0, c0, if_neg (hn 0 (by decide)), if_neg (hn 1 (by decide)), if_neg (hn 2 (by decide)), if_neg (hn 3 (by decide)), if_neg (hn 4 (by decide)), if_neg (hn 5 (by decide)), if_neg (hn 6 (by decide)), if_neg (hn 7 (by decide)), if_neg (hn 8 (by decide)), if_neg (hn 9 (by decide)), if_neg (hn 10 (by decide)), if_neg (hn 11 (by decide)), if_neg (hn 12 (by decide)), if_neg (hn 13 (by decide)), if_neg (hn 14 (by decide)), if_neg (hn 15 (by decide)), if_neg (hn 16 (by decide)), if_neg (hn 17 (by decide)), if_neg (hn 18 (by decide)), if_neg (hn 19 (by decide)), if_pos hc, e1, e2, Option.bind_some, p6, if_true]
theorem st_back (hL : L ≤ 3072) (k : Nat) (hk : 6 * k + 6 ≤ L) (I : zInv L xs E s t n z J) (hn : ∀ v : Int32, v ∈ zOps 21 → ¬ xs (6 * k) &&& 31 = v) (hc : xs (6 * k) &&& 31 = 21) : zAt L xs k J := by
  obtain ⟨v, J1, J2, e1, e2, E', s', t', n', z', I', A1⟩ : zAns L xs (F_X6_back) (F_X7_back) J := c_back I
  refine ⟨J2, ⟨E', s', t', n', z', I'⟩, fun fu => ?_⟩
  obtain ⟨l1, l2⟩ := L_f L (by omega)
  obtain ⟨hend, p6, i0, c0, px⟩ := at_f hL hk
  rw [F_L_law_18]
  simp only [I.1.1, I.1.2, A1.1, A1.2, l2, if_pos l1, if_neg hend, if_pos i0, c0, if_neg (hn 0 (by decide)), if_neg (hn 1 (by decide)), if_neg (hn 2 (by decide)), if_neg (hn 3 (by decide)), if_neg (hn 4 (by decide)), if_neg (hn 5 (by decide)), if_neg (hn 6 (by decide)), if_neg (hn 7 (by decide)), if_neg (hn 8 (by decide)), if_neg (hn 9 (by decide)), if_neg (hn 10 (by decide)), if_neg (hn 11 (by decide)), if_neg (hn 12 (by decide)), if_neg (hn 13 (by decide)), if_neg (hn 14 (by decide)), if_neg (hn 15 (by decide)), if_neg (hn 16 (by decide)), if_neg (hn 17 (by decide)), if_neg (hn 18 (by decide)), if_neg (hn 19 (by decide)), if_neg (hn 20 (by decide)), if_pos hc, e1, e2, Option.bind_some, p6, if_true]
theorem st_count (hL : L ≤ 3072) (k : Nat) (hk : 6 * k + 6 ≤ L) (I : zInv L xs E s t n z J) (hn : ∀ v : Int32, v ∈ zOps 22 → ¬ xs (6 * k) &&& 31 = v) (hc : xs (6 * k) &&& 31 = 22) : zAt L xs k J := by
  obtain ⟨v, J1, J2, e1, e2, E', s', t', n', z', I', A1⟩ : zAns L xs (F_X6_count (xs (6 * k + 1))) (F_X7_count (xs (6 * k + 1))) J := c_count I
  refine ⟨J2, ⟨E', s', t', n', z', I'⟩, fun fu => ?_⟩
  obtain ⟨l1, l2⟩ := L_f L (by omega)
  obtain ⟨hend, p6, i0, c0, px⟩ := at_f hL hk
  rw [F_L_law_18]
  obtain ⟨q1, x1, y1⟩ : nI (6 * k) + (1 : Int32) = nI (6 * k + 1) ∧ zzIx (nI (6 * k + 1)) L ∧ (nI (6 * k + 1)).toNatClampNeg = 6 * k + 1 := px 1 (by omega)
  simp only [I.1.1, I.1.2, A1.1, A1.2, l2, if_pos l1, if_neg hend, if_pos i0, c0, if_neg (hn 0 (by decide)), if_neg (hn 1 (by decide)), if_neg (hn 2 (by decide)), if_neg (hn 3 (by decide)), if_neg (hn 4 (by decide)), if_neg (hn 5 (by decide)), if_neg (hn 6 (by decide)), if_neg (hn 7 (by decide)), if_neg (hn 8 (by decide)), if_neg (hn 9 (by decide)), if_neg (hn 10 (by decide)), if_neg (hn 11 (by decide)), if_neg (hn 12 (by decide)), if_neg (hn 13 (by decide)), if_neg (hn 14 (by decide)), if_neg (hn 15 (by decide)), if_neg (hn 16 (by decide)), if_neg (hn 17 (by decide)), if_neg (hn 18 (by decide)), if_neg (hn 19 (by decide)), if_neg (hn 20 (by decide)), if_neg (hn 21 (by decide)), if_pos hc, q1, if_pos x1, y1, e1, e2, Option.bind_some, p6, if_true]
theorem st_sheet (hL : L ≤ 3072) (k : Nat) (hk : 6 * k + 6 ≤ L) (I : zInv L xs E s t n z J) (hn : ∀ v : Int32, v ∈ zOps 23 → ¬ xs (6 * k) &&& 31 = v) (hc : xs (6 * k) &&& 31 = 23) : zAt L xs k J := by
  obtain ⟨v, J1, J2, e1, e2, E', s', t', n', z', I', A1⟩ : zAns L xs (F_X6_sheet (xs (6 * k + 1)) (xs (6 * k + 2)) (xs (6 * k + 3))) (F_X7_sheet (xs (6 * k + 1)) (xs (6 * k + 2)) (xs (6 * k + 3))) J := c_sheet I
  refine ⟨J2, ⟨E', s', t', n', z', I'⟩, fun fu => ?_⟩
  obtain ⟨l1, l2⟩ := L_f L (by omega)
  obtain ⟨hend, p6, i0, c0, px⟩ := at_f hL hk
  rw [F_L_law_18]
  obtain ⟨q1, x1, y1⟩ : nI (6 * k) + (1 : Int32) = nI (6 * k + 1) ∧ zzIx (nI (6 * k + 1)) L ∧ (nI (6 * k + 1)).toNatClampNeg = 6 * k + 1 := px 1 (by omega)
  obtain ⟨q2, x2, y2⟩ : nI (6 * k) + (2 : Int32) = nI (6 * k + 2) ∧ zzIx (nI (6 * k + 2)) L ∧ (nI (6 * k + 2)).toNatClampNeg = 6 * k + 2 := px 2 (by omega)
  obtain ⟨q3, x3, y3⟩ : nI (6 * k) + (3 : Int32) = nI (6 * k + 3) ∧ zzIx (nI (6 * k + 3)) L ∧ (nI (6 * k + 3)).toNatClampNeg = 6 * k + 3 := px 3 (by omega)
  simp only [I.1.1, I.1.2, A1.1, A1.2, l2, if_pos l1, if_neg hend, if_pos i0, c0, if_neg (hn 0 (by decide)), if_neg (hn 1 (by decide)), if_neg (hn 2 (by decide)), if_neg (hn 3 (by decide)), if_neg (hn 4 (by decide)), if_neg (hn 5 (by decide)), if_neg (hn 6 (by decide)), if_neg (hn 7 (by decide)), if_neg (hn 8 (by decide)), if_neg (hn 9 (by decide)), if_neg (hn 10 (by decide)), if_neg (hn 11 (by decide)), if_neg (hn 12 (by decide)), if_neg (hn 13 (by decide)), if_neg (hn 14 (by decide)), if_neg (hn 15 (by decide)), if_neg (hn 16 (by decide)), if_neg (hn 17 (by decide)), if_neg (hn 18 (by decide)), if_neg (hn 19 (by decide)), if_neg (hn 20 (by decide)), if_neg (hn 21 (by decide)), if_neg (hn 22 (by decide)), if_pos hc, q1, if_pos x1, y1, q2, if_pos x2, y2, q3, if_pos x3, y3, e1, e2, Option.bind_some, p6, if_true]
theorem st_cell (hL : L ≤ 3072) (k : Nat) (hk : 6 * k + 6 ≤ L) (I : zInv L xs E s t n z J) (hn : ∀ v : Int32, v ∈ zOps 24 → ¬ xs (6 * k) &&& 31 = v) (hc : xs (6 * k) &&& 31 = 24) : zAt L xs k J := by
  obtain ⟨v, J1, J2, e1, e2, E', s', t', n', z', I', A1⟩ : zAns L xs (F_X6_cell (xs (6 * k + 1)) (xs (6 * k + 2)) (xs (6 * k + 3))) (F_X7_cell (xs (6 * k + 1)) (xs (6 * k + 2)) (xs (6 * k + 3))) J := c_cell I
  refine ⟨J2, ⟨E', s', t', n', z', I'⟩, fun fu => ?_⟩
  obtain ⟨l1, l2⟩ := L_f L (by omega)
  obtain ⟨hend, p6, i0, c0, px⟩ := at_f hL hk
  rw [F_L_law_18]
  obtain ⟨q1, x1, y1⟩ : nI (6 * k) + (1 : Int32) = nI (6 * k + 1) ∧ zzIx (nI (6 * k + 1)) L ∧ (nI (6 * k + 1)).toNatClampNeg = 6 * k + 1 := px 1 (by omega)
  obtain ⟨q2, x2, y2⟩ : nI (6 * k) + (2 : Int32) = nI (6 * k + 2) ∧ zzIx (nI (6 * k + 2)) L ∧ (nI (6 * k + 2)).toNatClampNeg = 6 * k + 2 := px 2 (by omega)
  obtain ⟨q3, x3, y3⟩ : nI (6 * k) + (3 : Int32) = nI (6 * k + 3) ∧ zzIx (nI (6 * k + 3)) L ∧ (nI (6 * k + 3)).toNatClampNeg = 6 * k + 3 := px 3 (by omega)
  simp only [I.1.1, I.1.2, A1.1, A1.2, l2, if_pos l1, if_neg hend, if_pos i0, c0, if_neg (hn 0 (by decide)), if_neg (hn 1 (by decide)), if_neg (hn 2 (by decide)), if_neg (hn 3 (by decide)), if_neg (hn 4 (by decide)), if_neg (hn 5 (by decide)), if_neg (hn 6 (by decide)), if_neg (hn 7 (by decide)), if_neg (hn 8 (by decide)), if_neg (hn 9 (by decide)), if_neg (hn 10 (by decide)), if_neg (hn 11 (by decide)), if_neg (hn 12 (by decide)), if_neg (hn 13 (by decide)), if_neg (hn 14 (by decide)), if_neg (hn 15 (by decide)), if_neg (hn 16 (by decide)), if_neg (hn 17 (by decide)), if_neg (hn 18 (by decide)), if_neg (hn 19 (by decide)), if_neg (hn 20 (by decide)), if_neg (hn 21 (by decide)), if_neg (hn 22 (by decide)), if_neg (hn 23 (by decide)), if_pos hc, q1, if_pos x1, y1, q2, if_pos x2, y2, q3, if_pos x3, y3, e1, e2, Option.bind_some, p6, if_true]
theorem st_copy (hL : L ≤ 3072) (k : Nat) (hk : 6 * k + 6 ≤ L) (I : zInv L xs E s t n z J) (hn : ∀ v : Int32, v ∈ zOps 25 → ¬ xs (6 * k) &&& 31 = v) (hc : xs (6 * k) &&& 31 = 25) : zAt L xs k J := by
  obtain ⟨v, J1, J2, e1, e2, E', s', t', n', z', I', A1⟩ : zAns L xs (F_X6_copy (xs (6 * k + 1)) (xs (6 * k + 2)) (xs (6 * k + 3)) (xs (6 * k + 4)) (xs (6 * k + 5))) (F_X7_copy (xs (6 * k + 1)) (xs (6 * k + 2)) (xs (6 * k + 3)) (xs (6 * k + 4)) (xs (6 * k + 5))) J := c_copy I
  refine ⟨J2, ⟨E', s', t', n', z', I'⟩, fun fu => ?_⟩
  obtain ⟨l1, l2⟩ := L_f L (by omega)
  obtain ⟨hend, p6, i0, c0, px⟩ := at_f hL hk
  rw [F_L_law_18]
  obtain ⟨q1, x1, y1⟩ : nI (6 * k) + (1 : Int32) = nI (6 * k + 1) ∧ zzIx (nI (6 * k + 1)) L ∧ (nI (6 * k + 1)).toNatClampNeg = 6 * k + 1 := px 1 (by omega)
  obtain ⟨q2, x2, y2⟩ : nI (6 * k) + (2 : Int32) = nI (6 * k + 2) ∧ zzIx (nI (6 * k + 2)) L ∧ (nI (6 * k + 2)).toNatClampNeg = 6 * k + 2 := px 2 (by omega)
  obtain ⟨q3, x3, y3⟩ : nI (6 * k) + (3 : Int32) = nI (6 * k + 3) ∧ zzIx (nI (6 * k + 3)) L ∧ (nI (6 * k + 3)).toNatClampNeg = 6 * k + 3 := px 3 (by omega)
  obtain ⟨q4, x4, y4⟩ : nI (6 * k) + (4 : Int32) = nI (6 * k + 4) ∧ zzIx (nI (6 * k + 4)) L ∧ (nI (6 * k + 4)).toNatClampNeg = 6 * k + 4 := px 4 (by omega)
  obtain ⟨q5, x5, y5⟩ : nI (6 * k) + (5 : Int32) = nI (6 * k + 5) ∧ zzIx (nI (6 * k + 5)) L ∧ (nI (6 * k + 5)).toNatClampNeg = 6 * k + 5 := px 5 (by omega)
  simp only [I.1.1, I.1.2, A1.1, A1.2, l2, if_pos l1, if_neg hend, if_pos i0, c0, if_neg (hn 0 (by decide)), if_neg (hn 1 (by decide)), if_neg (hn 2 (by decide)), if_neg (hn 3 (by decide)), if_neg (hn 4 (by decide)), if_neg (hn 5 (by decide)), if_neg (hn 6 (by decide)), if_neg (hn 7 (by decide)), if_neg (hn 8 (by decide)), if_neg (hn 9 (by decide)), if_neg (hn 10 (by decide)), if_neg (hn 11 (by decide)), if_neg (hn 12 (by decide)), if_neg (hn 13 (by decide)), if_neg (hn 14 (by decide)), if_neg (hn 15 (by decide)), if_neg (hn 16 (by decide)), if_neg (hn 17 (by decide)), if_neg (hn 18 (by decide)), if_neg (hn 19 (by decide)), if_neg (hn 20 (by decide)), if_neg (hn 21 (by decide)), if_neg (hn 22 (by decide)), if_neg (hn 23 (by decide)), if_neg (hn 24 (by decide)), if_pos hc, q1, if_pos x1, y1, q2, if_pos x2, y2, q3, if_pos x3, y3, q4, if_pos x4, y4, q5, if_pos x5, y5, e1, e2, Option.bind_some, p6, if_true]
theorem st_passengers (hL : L ≤ 3072) (k : Nat) (hk : 6 * k + 6 ≤ L) (I : zInv L xs E s t n z J) (hn : ∀ v : Int32, v ∈ zOps 26 → ¬ xs (6 * k) &&& 31 = v) (hc : xs (6 * k) &&& 31 = 26) : zAt L xs k J := by
  obtain ⟨v, J1, J2, e1, e2, E', s', t', n', z', I', A1⟩ : zAns L xs (F_X6_passengers (xs (6 * k + 1)) (xs (6 * k + 2)) (xs (6 * k + 3)) (xs (6 * k + 4))) (F_X7_passengers (xs (6 * k + 1)) (xs (6 * k + 2)) (xs (6 * k + 3)) (xs (6 * k + 4))) J := c_passengers I
  refine ⟨J2, ⟨E', s', t', n', z', I'⟩, fun fu => ?_⟩
  obtain ⟨l1, l2⟩ := L_f L (by omega)
  obtain ⟨hend, p6, i0, c0, px⟩ := at_f hL hk
  rw [F_L_law_18]
  obtain ⟨q1, x1, y1⟩ : nI (6 * k) + (1 : Int32) = nI (6 * k + 1) ∧ zzIx (nI (6 * k + 1)) L ∧ (nI (6 * k + 1)).toNatClampNeg = 6 * k + 1 := px 1 (by omega)
  obtain ⟨q2, x2, y2⟩ : nI (6 * k) + (2 : Int32) = nI (6 * k + 2) ∧ zzIx (nI (6 * k + 2)) L ∧ (nI (6 * k + 2)).toNatClampNeg = 6 * k + 2 := px 2 (by omega)
  obtain ⟨q3, x3, y3⟩ : nI (6 * k) + (3 : Int32) = nI (6 * k + 3) ∧ zzIx (nI (6 * k + 3)) L ∧ (nI (6 * k + 3)).toNatClampNeg = 6 * k + 3 := px 3 (by omega)
  obtain ⟨q4, x4, y4⟩ : nI (6 * k) + (4 : Int32) = nI (6 * k + 4) ∧ zzIx (nI (6 * k + 4)) L ∧ (nI (6 * k + 4)).toNatClampNeg = 6 * k + 4 := px 4 (by omega)
  simp only [I.1.1, I.1.2, A1.1, A1.2, l2, if_pos l1, if_neg hend, if_pos i0, c0, if_neg (hn 0 (by decide)), if_neg (hn 1 (by decide)), if_neg (hn 2 (by decide)), if_neg (hn 3 (by decide)), if_neg (hn 4 (by decide)), if_neg (hn 5 (by decide)), if_neg (hn 6 (by decide)), if_neg (hn 7 (by decide)), if_neg (hn 8 (by decide)), if_neg (hn 9 (by decide)), if_neg (hn 10 (by decide)), if_neg (hn 11 (by decide)), if_neg (hn 12 (by decide)), if_neg (hn 13 (by decide)), if_neg (hn 14 (by decide)), if_neg (hn 15 (by decide)), if_neg (hn 16 (by decide)), if_neg (hn 17 (by decide)), if_neg (hn 18 (by decide)), if_neg (hn 19 (by decide)), if_neg (hn 20 (by decide)), if_neg (hn 21 (by decide)), if_neg (hn 22 (by decide)), if_neg (hn 23 (by decide)), if_neg (hn 24 (by decide)), if_neg (hn 25 (by decide)), if_pos hc, q1, if_pos x1, y1, q2, if_pos x2, y2, q3, if_pos x3, y3, q4, if_pos x4, y4, e1, e2, Option.bind_some, p6, if_true]
theorem st_taken (hL : L ≤ 3072) (k : Nat) (hk : 6 * k + 6 ≤ L) (I : zInv L xs E s t n z J) (hn : ∀ v : Int32, v ∈ zOps 27 → ¬ xs (6 * k) &&& 31 = v) (hc : xs (6 * k) &&& 31 = 27) : zAt L xs k J := by
  obtain ⟨v, J1, J2, e1, e2, E', s', t', n', z', I', A1⟩ : zAns L xs (F_X6_taken (xs (6 * k + 1)) (xs (6 * k + 2))) (F_X7_taken (xs (6 * k + 1)) (xs (6 * k + 2))) J := c_taken I
  refine ⟨J2, ⟨E', s', t', n', z', I'⟩, fun fu => ?_⟩
  obtain ⟨l1, l2⟩ := L_f L (by omega)
  obtain ⟨hend, p6, i0, c0, px⟩ := at_f hL hk
  rw [F_L_law_18]
  obtain ⟨q1, x1, y1⟩ : nI (6 * k) + (1 : Int32) = nI (6 * k + 1) ∧ zzIx (nI (6 * k + 1)) L ∧ (nI (6 * k + 1)).toNatClampNeg = 6 * k + 1 := px 1 (by omega)
  obtain ⟨q2, x2, y2⟩ : nI (6 * k) + (2 : Int32) = nI (6 * k + 2) ∧ zzIx (nI (6 * k + 2)) L ∧ (nI (6 * k + 2)).toNatClampNeg = 6 * k + 2 := px 2 (by omega)
  simp only [I.1.1, I.1.2, A1.1, A1.2, l2, if_pos l1, if_neg hend, if_pos i0, c0, if_neg (hn 0 (by decide)), if_neg (hn 1 (by decide)), if_neg (hn 2 (by decide)), if_neg (hn 3 (by decide)), if_neg (hn 4 (by decide)), if_neg (hn 5 (by decide)), if_neg (hn 6 (by decide)), if_neg (hn 7 (by decide)), if_neg (hn 8 (by decide)), if_neg (hn 9 (by decide)), if_neg (hn 10 (by decide)), if_neg (hn 11 (by decide)), if_neg (hn 12 (by decide)), if_neg (hn 13 (by decide)), if_neg (hn 14 (by decide)), if_neg (hn 15 (by decide)), if_neg (hn 16 (by decide)), if_neg (hn 17 (by decide)), if_neg (hn 18 (by decide)), if_neg (hn 19 (by decide)), if_neg (hn 20 (by decide)), if_neg (hn 21 (by decide)), if_neg (hn 22 (by decide)), if_neg (hn 23 (by decide)), if_neg (hn 24 (by decide)), if_neg (hn 25 (by decide)), if_neg (hn 26 (by decide)), if_pos hc, q1, if_pos x1, y1, q2, if_pos x2, y2, e1, e2, Option.bind_some, p6, if_true]
theorem st_skip (hL : L ≤ 3072) (k : Nat) (hk : 6 * k + 6 ≤ L) (I : zInv L xs E s t n z J) (hn : ∀ v : Int32, v ∈ zOps 28 → ¬ xs (6 * k) &&& 31 = v) : zAt L xs k J := by
  refine ⟨J, ⟨E, s, t, n, z, I⟩, fun fu => ?_⟩
  obtain ⟨l1, l2⟩ := L_f L (by omega)
  obtain ⟨hend, p6, i0, c0, px⟩ := at_f hL hk
  rw [F_L_law_18]
  simp only [I.1.1, I.1.2, l2, if_pos l1, if_neg hend, if_pos i0, c0, if_neg (hn 0 (by decide)), if_neg (hn 1 (by decide)), if_neg (hn 2 (by decide)), if_neg (hn 3 (by decide)), if_neg (hn 4 (by decide)), if_neg (hn 5 (by decide)), if_neg (hn 6 (by decide)), if_neg (hn 7 (by decide)), if_neg (hn 8 (by decide)), if_neg (hn 9 (by decide)), if_neg (hn 10 (by decide)), if_neg (hn 11 (by decide)), if_neg (hn 12 (by decide)), if_neg (hn 13 (by decide)), if_neg (hn 14 (by decide)), if_neg (hn 15 (by decide)), if_neg (hn 16 (by decide)), if_neg (hn 17 (by decide)), if_neg (hn 18 (by decide)), if_neg (hn 19 (by decide)), if_neg (hn 20 (by decide)), if_neg (hn 21 (by decide)), if_neg (hn 22 (by decide)), if_neg (hn 23 (by decide)), if_neg (hn 24 (by decide)), if_neg (hn 25 (by decide)), if_neg (hn 26 (by decide)), if_neg (hn 27 (by decide)), p6]
theorem st_any (hL : L ≤ 3072) (k : Nat) (hk : 6 * k + 6 ≤ L) (I : zInv L xs E s t n z J) : zAt L xs k J := by
  by_cases h0 : xs (6 * k) &&& 31 = 0
  · exact st_set hL k hk I h0
  have n1 : ∀ v : Int32, v ∈ zOps 1 → ¬ xs (6 * k) &&& 31 = v := zOps_s (fun v hv => absurd hv (by simp [zOps])) h0
  by_cases h1 : xs (6 * k) &&& 31 = 1
  · exact st_passenger hL k hk I n1 h1
  have n2 : ∀ v : Int32, v ∈ zOps 2 → ¬ xs (6 * k) &&& 31 = v := zOps_s n1 h1
  by_cases h2 : xs (6 * k) &&& 31 = 2
  · exact st_sit hL k hk I n2 h2
  have n3 : ∀ v : Int32, v ∈ zOps 3 → ¬ xs (6 * k) &&& 31 = v := zOps_s n2 h2
  by_cases h3 : xs (6 * k) &&& 31 = 3
  · exact st_told hL k hk I n3 h3
  have n4 : ∀ v : Int32, v ∈ zOps 4 → ¬ xs (6 * k) &&& 31 = v := zOps_s n3 h3
  by_cases h4 : xs (6 * k) &&& 31 = 4
  · exact st_who hL k hk I n4 h4
  have n5 : ∀ v : Int32, v ∈ zOps 5 → ¬ xs (6 * k) &&& 31 = v := zOps_s n4 h4
  by_cases h5 : xs (6 * k) &&& 31 = 5
  · exact st_feed hL k hk I n5 h5
  have n6 : ∀ v : Int32, v ∈ zOps 6 → ¬ xs (6 * k) &&& 31 = v := zOps_s n5 h5
  by_cases h6 : xs (6 * k) &&& 31 = 6
  · exact st_text hL k hk I n6 h6
  have n7 : ∀ v : Int32, v ∈ zOps 7 → ¬ xs (6 * k) &&& 31 = v := zOps_s n6 h6
  by_cases h7 : xs (6 * k) &&& 31 = 7
  · exact st_force hL k hk I n7 h7
  have n8 : ∀ v : Int32, v ∈ zOps 8 → ¬ xs (6 * k) &&& 31 = v := zOps_s n7 h7
  by_cases h8 : xs (6 * k) &&& 31 = 8
  · exact st_all hL k hk I n8 h8
  have n9 : ∀ v : Int32, v ∈ zOps 9 → ¬ xs (6 * k) &&& 31 = v := zOps_s n8 h8
  by_cases h9 : xs (6 * k) &&& 31 = 9
  · exact st_ride hL k hk I n9 h9
  have n10 : ∀ v : Int32, v ∈ zOps 10 → ¬ xs (6 * k) &&& 31 = v := zOps_s n9 h9
  by_cases h10 : xs (6 * k) &&& 31 = 10
  · exact st_best hL k hk I n10 h10
  have n11 : ∀ v : Int32, v ∈ zOps 11 → ¬ xs (6 * k) &&& 31 = v := zOps_s n10 h10
  by_cases h11 : xs (6 * k) &&& 31 = 11
  · exact st_change hL k hk I n11 h11
  have n12 : ∀ v : Int32, v ∈ zOps 12 → ¬ xs (6 * k) &&& 31 = v := zOps_s n11 h11
  by_cases h12 : xs (6 * k) &&& 31 = 12
  · exact st_watch hL k hk I n12 h12
  have n13 : ∀ v : Int32, v ∈ zOps 13 → ¬ xs (6 * k) &&& 31 = v := zOps_s n12 h12
  by_cases h13 : xs (6 * k) &&& 31 = 13
  · exact st_hat hL k hk I n13 h13
  have n14 : ∀ v : Int32, v ∈ zOps 14 → ¬ xs (6 * k) &&& 31 = v := zOps_s n13 h13
  by_cases h14 : xs (6 * k) &&& 31 = 14
  · exact st_front hL k hk I n14 h14
  have n15 : ∀ v : Int32, v ∈ zOps 15 → ¬ xs (6 * k) &&& 31 = v := zOps_s n14 h14
  by_cases h15 : xs (6 * k) &&& 31 = 15
  · exact st_stop hL k hk I n15 h15
  have n16 : ∀ v : Int32, v ∈ zOps 16 → ¬ xs (6 * k) &&& 31 = v := zOps_s n15 h15
  by_cases h16 : xs (6 * k) &&& 31 = 16
  · exact st_tells hL k hk I n16 h16
  have n17 : ∀ v : Int32, v ∈ zOps 17 → ¬ xs (6 * k) &&& 31 = v := zOps_s n16 h16
  by_cases h17 : xs (6 * k) &&& 31 = 17
  · exact st_film hL k hk I n17 h17
  have n18 : ∀ v : Int32, v ∈ zOps 18 → ¬ xs (6 * k) &&& 31 = v := zOps_s n17 h17
  by_cases h18 : xs (6 * k) &&& 31 = 18
  · exact st_drawn hL k hk I n18 h18
  have n19 : ∀ v : Int32, v ∈ zOps 19 → ¬ xs (6 * k) &&& 31 = v := zOps_s n18 h18
  by_cases h19 : xs (6 * k) &&& 31 = 19
  · exact st_chance hL k hk I n19 h19
  have n20 : ∀ v : Int32, v ∈ zOps 20 → ¬ xs (6 * k) &&& 31 = v := zOps_s n19 h19
  by_cases h20 : xs (6 * k) &&& 31 = 20
  · exact st_image hL k hk I n20 h20
  have n21 : ∀ v : Int32, v ∈ zOps 21 → ¬ xs (6 * k) &&& 31 = v := zOps_s n20 h20
  by_cases h21 : xs (6 * k) &&& 31 = 21
  · exact st_back hL k hk I n21 h21
  have n22 : ∀ v : Int32, v ∈ zOps 22 → ¬ xs (6 * k) &&& 31 = v := zOps_s n21 h21
  by_cases h22 : xs (6 * k) &&& 31 = 22
  · exact st_count hL k hk I n22 h22
  have n23 : ∀ v : Int32, v ∈ zOps 23 → ¬ xs (6 * k) &&& 31 = v := zOps_s n22 h22
  by_cases h23 : xs (6 * k) &&& 31 = 23
  · exact st_sheet hL k hk I n23 h23
  have n24 : ∀ v : Int32, v ∈ zOps 24 → ¬ xs (6 * k) &&& 31 = v := zOps_s n23 h23
  by_cases h24 : xs (6 * k) &&& 31 = 24
  · exact st_cell hL k hk I n24 h24
  have n25 : ∀ v : Int32, v ∈ zOps 25 → ¬ xs (6 * k) &&& 31 = v := zOps_s n24 h24
  by_cases h25 : xs (6 * k) &&& 31 = 25
  · exact st_copy hL k hk I n25 h25
  have n26 : ∀ v : Int32, v ∈ zOps 26 → ¬ xs (6 * k) &&& 31 = v := zOps_s n25 h25
  by_cases h26 : xs (6 * k) &&& 31 = 26
  · exact st_passengers hL k hk I n26 h26
  have n27 : ∀ v : Int32, v ∈ zOps 27 → ¬ xs (6 * k) &&& 31 = v := zOps_s n26 h26
  by_cases h27 : xs (6 * k) &&& 31 = 27
  · exact st_taken hL k hk I n27 h27
  have n28 : ∀ v : Int32, v ∈ zOps 28 → ¬ xs (6 * k) &&& 31 = v := zOps_s n27 h27
  exact st_skip hL k hk I n28
end RU
theorem zz_loop (L : Nat) (xs : Nat → Int32) (hL : L ≤ 3072) : ∃ Jf : zzJ, F_L_law_18 4096 0 (zzJ0 L xs) = some (1, Jf) := by
  refine zLoop (G := fun fu (q : Nat × zzJ) => F_L_law_18 fu (nI (6 * q.1)) q.2) (P := fun k q => q.1 = k ∧ ∃ E s t n z, zInv L xs E s t n z q.2) (Q := fun r => ∃ Jf, r = some (1, Jf)) (s := L / 6) ?_ (L / 6) 0 (0, zzJ0 L xs) (by omega) ⟨rfl, zz_start L xs⟩ 4096 (by omega)
  rintro k ⟨k2, J'⟩ hk ⟨rfl, E, s, t, n, z, I⟩
  dsimp only at hk I ⊢
  by_cases hlt : 6 * k2 + 6 ≤ L
  · right
    obtain ⟨J2, I2, e⟩ := st_any hL k2 hlt I
    exact ⟨by omega, (k2 + 1, J2), ⟨rfl, I2⟩, e⟩
  · left
    refine ⟨_, ⟨J', rfl⟩, fun fu => ?_⟩
    obtain ⟨l1, l2⟩ := L_f L (by omega)
    rw [F_L_law_18]
    simp only [I.1.1, l2, if_pos l1]
    exact if_pos ((end_iff hL (by omega)).2 (by omega))
theorem zz_run (L : Nat) (xs : Nat → Int32) (hL : L ≤ 3072) : ∃ Jf : zzJ, zzEv 2000 zzLaw 18 [.ref 2000, .ref 0, .ref 46, .int 0] [] (zK (zzJ0 L xs)) (some (.int 1), zK Jf) := by
  obtain ⟨Jf, h⟩ := zz_loop L xs hL
  exact ⟨Jf, G_L_law_18 (by omega) 4096 0 (zzJ0 L xs) (1, Jf) h⟩
