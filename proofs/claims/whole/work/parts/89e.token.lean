/-! text: the reference goes one token on -/
def zRsg (x : Int32) (J : zzJ) : Option zzJ := (if x = (40 : Int32) then F_X7_next_300 x J else (if x = (41 : Int32) then F_X7_next_300 x J else (if x = (59 : Int32) then F_X7_next_300 x J else (if x = (43 : Int32) then F_X7_next_300 x J else (if x = (45 : Int32) then F_X7_next_300 x J else (if x = (42 : Int32) then F_X7_next_300 x J else (if x = (60 : Int32) then F_X7_next_300 x J else (if x = (61 : Int32) then F_X7_next_300 x J else some J))))))))
def zRbd (J : zzJ) : Option zzJ := (Option.bind (F_X7_byteAt ((wI J 46 25 (J.2 46 23)).2 46 23) (wI J 46 25 (J.2 46 23))) fun q14 => (if q14.1 < (0 : Int32) then some (wI (wI (wI q14.2 46 24 (4 : Int32)) 46 24 (0 : Int32)) 46 25 ((wI (wI q14.2 46 24 (4 : Int32)) 46 24 (0 : Int32)).2 46 22)) else (Option.bind (F_X7_in q14.1.toInt64 (97 : Int64) (122 : Int64) (wI q14.2 46 24 (4 : Int32))) fun q16 => (if q16.1 = (0 : Int32) then (Option.bind (F_X7_in q14.1.toInt64 (48 : Int64) (57 : Int64) q16.2) fun q18 => (if q18.1 = (0 : Int32) then zRsg q14.1 q18.2 else F_X7_next_160 4096 (0 : Int32) (wL (wI q18.2 46 24 (2 : Int32)) 46 26 (0 : Int64)))) else F_X7_next_100 4096 (wI q16.2 46 24 (1 : Int32))))))
section TN
variable {J J1 J2 : zzJ} {b : Nat → Nat} {m p q e f i j k x : Nat}
theorem r_signs (hx : x < 256) : zRsg (nI x) J = if zSgn x = true then F_X7_next_300 (nI x) J else some J := by
  unfold zRsg
  by_cases h40 : x = 40
  · subst h40
    rw [if_pos (show nI 40 = (40 : Int32) from rfl), if_pos (show zSgn 40 = true from rfl)]
  rw [if_neg (show ¬ nI x = (40 : Int32) from fun q => h40 (i_inj (k := x) (m := 40) (by omega) (by omega) q))]
  by_cases h41 : x = 41
  · subst h41
    rw [if_pos (show nI 41 = (41 : Int32) from rfl), if_pos (show zSgn 41 = true from rfl)]
  rw [if_neg (show ¬ nI x = (41 : Int32) from fun q => h41 (i_inj (k := x) (m := 41) (by omega) (by omega) q))]
  by_cases h59 : x = 59
  · subst h59
    rw [if_pos (show nI 59 = (59 : Int32) from rfl), if_pos (show zSgn 59 = true from rfl)]
  rw [if_neg (show ¬ nI x = (59 : Int32) from fun q => h59 (i_inj (k := x) (m := 59) (by omega) (by omega) q))]
  by_cases h43 : x = 43
  · subst h43
    rw [if_pos (show nI 43 = (43 : Int32) from rfl), if_pos (show zSgn 43 = true from rfl)]
  rw [if_neg (show ¬ nI x = (43 : Int32) from fun q => h43 (i_inj (k := x) (m := 43) (by omega) (by omega) q))]
  by_cases h45 : x = 45
  · subst h45
    rw [if_pos (show nI 45 = (45 : Int32) from rfl), if_pos (show zSgn 45 = true from rfl)]
  rw [if_neg (show ¬ nI x = (45 : Int32) from fun q => h45 (i_inj (k := x) (m := 45) (by omega) (by omega) q))]
  by_cases h42 : x = 42
  · subst h42
    rw [if_pos (show nI 42 = (42 : Int32) from rfl), if_pos (show zSgn 42 = true from rfl)]
  rw [if_neg (show ¬ nI x = (42 : Int32) from fun q => h42 (i_inj (k := x) (m := 42) (by omega) (by omega) q))]
  by_cases h60 : x = 60
  · subst h60
    rw [if_pos (show nI 60 = (60 : Int32) from rfl), if_pos (show zSgn 60 = true from rfl)]
  rw [if_neg (show ¬ nI x = (60 : Int32) from fun q => h60 (i_inj (k := x) (m := 60) (by omega) (by omega) q))]
  by_cases h61 : x = 61
  · subst h61
    rw [if_pos (show nI 61 = (61 : Int32) from rfl), if_pos (show zSgn 61 = true from rfl)]
  rw [if_neg (show ¬ nI x = (61 : Int32) from fun q => h61 (i_inj (k := x) (m := 61) (by omega) (by omega) q))]
  rw [if_neg (show ¬ zSgn x = true by unfold zSgn; simp; omega)]
theorem r_body (t : zTr J b m f) (h23 : J.2 46 23 = nI p) (hp : p ≤ m) : ∃ J1, zRbd J = some J1 ∧ zFrN J J1 ∧ zGr J1 b m p := by
  have hm := t.1.1
  have hbp := t.2.2.2.2 p
  have f0 : zFrN J (wI J 46 25 (nI p)) := zFrN.wr (by omega)
  have t0 := t.fr f0
  have g23 : (wI J 46 25 (nI p)).2 46 23 = nI p := by rw [wI_g, if_neg (by omega)]; exact h23
  have g25 : (wI J 46 25 (nI p)).2 46 25 = nI p := by rw [wI_g, if_pos rfl]
  unfold zRbd
  rw [h23, g23, r_byte t0 (by omega), Option.bind_some]
  dsimp only
  generalize wI J 46 25 (nI p) = J0 at f0 t0 g23 g25
  by_cases hlt : p < m
  · have nn : ¬ nI (b p) < (0 : Int32) := by rw [i_lt, i_nI (by omega)]; show ¬ ((b p : Nat) : Int) < 0; omega
    rw [if_pos hlt, if_neg nn, r_ltr hbp, Option.bind_some]
    dsimp only
    by_cases hl : zLtr (b p) = true
    · have hk : zKi b m p = 1 := by unfold zKi; rw [if_pos hlt, if_pos hl]
      have hen : zEn b m p = zSkip zLtr b m (m - p) p := by unfold zEn; rw [if_pos hlt, if_pos hl]
      have fa : zFrN J0 (wI (wI J0 46 24 4) 46 24 1) := (zFrN.wr (by omega)).tr (zFrN.wr (by omega))
      obtain ⟨J1, e1, a1, a2, a3, a23⟩ := r_100 (t0.fr fa) (by rw [wI_g, if_neg (by omega), wI_g, if_neg (by omega)]; exact g23) hp
      rw [zOne_t hl, if_neg n10]
      refine ⟨J1, e1, (f0.tr fa).tr ⟨a2, fun k hk => a3 k (by omega), fun c k _ => by rw [a1]⟩, ?_, ?_, fun _ => ?_, fun h => ?_, fun h => ?_⟩
      · rw [a3 25 (by omega), wI_g, if_neg (by omega), wI_g, if_neg (by omega)]; exact g25
      · rw [a3 24 (by omega), wI_g, if_pos rfl, hk]; rfl
      · rw [a23, hen]
      · rw [hk] at h; omega
      · rw [hk] at h; omega
    · rw [zOne_f hl, if_pos rfl, r_dgt hbp, Option.bind_some]
      dsimp only
      by_cases hd : zDgt (b p) = true
      · have hen : zEn b m p = zSkip zDgt b m (m - p) p := by unfold zEn; rw [if_pos hlt, if_neg hl, if_pos hd]
        have hk : zKi b m p = if 4 < zEn b m p - p then 4 else 2 := by unfold zKi; rw [if_pos hlt, if_neg hl, if_pos hd]
        have fa : zFrN J0 (wL (wI (wI J0 46 24 4) 46 24 2) 46 26 0) := ((zFrN.wr (by omega)).tr (zFrN.wr (by omega))).tr zFrN.wl
        have q23 : (wL (wI (wI J0 46 24 4) 46 24 2) 46 26 0).2 46 23 = nI p := by
          show (wI (wI J0 46 24 4) 46 24 2).2 46 23 = nI p
          rw [wI_g, if_neg (by omega), wI_g, if_neg (by omega)]; exact g23
        have q25 : (wL (wI (wI J0 46 24 4) 46 24 2) 46 26 0).2 46 25 = nI p := by
          show (wI (wI J0 46 24 4) 46 24 2).2 46 25 = nI p
          rw [wI_g, if_neg (by omega), wI_g, if_neg (by omega)]; exact g25
        obtain ⟨J1, e1, f1, a25, a24, a23, a26⟩ := r_160 (t0.fr fa) q23 wL_1 hp
        rw [zOne_t hd, if_neg n10]
        rw [← hen] at a24 a23 a26
        refine ⟨J1, e1, (f0.tr fa).tr f1, a25.trans q25, ?_, fun _ => a23, fun h => a26 ?_, fun h => ?_⟩
        · rw [a24, hk]
          split <;> rfl
        · rw [hk] at h
          split at h
          · omega
          · omega
        · rw [hk] at h
          split at h <;> omega
      · rw [zOne_f hd, if_pos rfl, r_signs hbp]
        have hen : zEn b m p = p + 1 := by unfold zEn; rw [if_pos hlt, if_neg hl, if_neg hd]
        have fa : zFrN J0 (wI J0 46 24 4) := zFrN.wr (by omega)
        have q23 : (wI J0 46 24 4).2 46 23 = nI p := by rw [wI_g, if_neg (by omega)]; exact g23
        have q25 : (wI J0 46 24 4).2 46 25 = nI p := by rw [wI_g, if_neg (by omega)]; exact g25
        have q24 : (wI J0 46 24 4).2 46 24 = 4 := by rw [wI_g, if_pos rfl]
        generalize wI J0 46 24 4 = Ja at fa q23 q25 q24
        by_cases hs : zSgn (b p) = true
        · have hk : zKi b m p = 3 := by unfold zKi; rw [if_pos hlt, if_neg hl, if_neg hd, if_pos hs]
          have z23 : (wL (wI Ja 46 24 3) 46 26 (nI (b p)).toInt64).2 46 23 = nI p := by
            show (wI Ja 46 24 3).2 46 23 = nI p
            rw [wI_g, if_neg (by omega)]; exact q23
          have fb : zFrN Ja (wI (wL (wI Ja 46 24 3) 46 26 (nI (b p)).toInt64) 46 23 (nI (p + 1))) := ((zFrN.wr (by omega)).tr zFrN.wl).tr (zFrN.wr (by omega))
          refine ⟨_, ?_, (f0.tr fa).tr fb, ?_, ?_, fun _ => ?_, fun h => ?_, fun _ => ?_⟩
          · rw [if_pos hs]
            unfold F_X7_next_300
            rw [z23, nI_1]
          · rw [wI_g, if_neg (by omega)]
            show (wI Ja 46 24 3).2 46 25 = nI p
            rw [wI_g, if_neg (by omega)]; exact q25
          · rw [wI_g, if_neg (by omega)]
            show (wI Ja 46 24 3).2 46 24 = _
            rw [wI_g, if_pos rfl, hk]; rfl
          · rw [wI_g, if_pos rfl, hen]
          · rw [hk] at h; omega
          · exact wL_1 (J := wI Ja 46 24 3) (v := (nI (b p)).toInt64)
        · have hk : zKi b m p = 4 := by unfold zKi; rw [if_pos hlt, if_neg hl, if_neg hd, if_neg hs]
          exact ⟨Ja, if_neg hs, f0.tr fa, q25, by rw [q24, hk]; rfl, fun h => absurd hk h, fun h => by rw [hk] at h; omega, fun h => by rw [hk] at h; omega⟩
  · obtain rfl : p = m := by omega
    have hk : zKi b p p = 0 := by unfold zKi; rw [if_neg hlt]
    have hen : zEn b p p = p := by unfold zEn; rw [if_neg hlt]
    rw [if_neg hlt, if_pos (show (-1 : Int32) < 0 by decide)]
    have fa : zFrN J0 (wI (wI J0 46 24 4) 46 24 0) := (zFrN.wr (by omega)).tr (zFrN.wr (by omega))
    have q22 : (wI (wI J0 46 24 4) 46 24 0).2 46 22 = nI p := (fa.2.1 22 (by omega)).trans t0.2.1
    rw [q22]
    refine ⟨_, rfl, (f0.tr fa).tr (zFrN.wr (by omega)), ?_, ?_, fun _ => ?_, fun h => by rw [hk] at h; omega, fun h => by rw [hk] at h; omega⟩
    · rw [wI_g, if_pos rfl]
    · rw [wI_g, if_neg (by omega), wI_g, if_pos rfl, hk]; rfl
    · rw [wI_g, if_neg (by omega), wI_g, if_neg (by omega), wI_g, if_neg (by omega), hen]; exact g23
theorem r_next (t : zTr J b m f) (h23 : J.2 46 23 = nI e) (he : e ≤ m) : ∃ J1, F_X7_next J = some J1 ∧ zFrN J J1 ∧ zGr J1 b m (zNb b m e) := by
  have hm := t.1.1
  unfold zNb
  generalize hE : zSkip zBlk b m (m - e) e = T
  refine zLoop (G := fun fu (q : Nat × zzJ) => F_X7_next_0 fu q.2) (P := fun k q => q.1 = k ∧ zSkip zBlk b m (m - k) k = T ∧ zFrN J q.2 ∧ q.2.2 46 23 = nI k) (Q := fun r => ∃ J1, r = some J1 ∧ zFrN J J1 ∧ zGr J1 b m T) (s := m) ?_ (m - e) e (e, J) (by omega) ⟨rfl, hE, zFrN.rf, h23⟩ 4096 (by omega)
  rintro k ⟨k2, J'⟩ hk ⟨rfl, hP, fr, a23⟩
  dsimp only at hk hP fr a23 ⊢
  have t' := t.fr fr
  have fin : zSkip zBlk b m (m - k2) k2 = k2 → ∃ r, (∃ J1, r = some J1 ∧ zFrN J J1 ∧ zGr J1 b m T) ∧ zRbd J' = r := by
    intro hz
    obtain ⟨J1, e1, f1, g1⟩ := r_body t' a23 hk
    rw [hz] at hP
    subst hP
    exact ⟨_, ⟨J1, rfl, fr.tr f1, g1⟩, e1⟩
  have st : ∀ fu, F_X7_next_0 (fu + 1) J' = (if (if k2 < m then nI (b k2) else -1) = (32 : Int32) then F_X7_next_0 fu (wI J' 46 23 (nI (k2 + 1))) else (if (if k2 < m then nI (b k2) else -1) = (10 : Int32) then F_X7_next_0 fu (wI J' 46 23 (nI (k2 + 1))) else zRbd J')) := by
    intro fu
    rw [F_X7_next_0, a23, r_byte t' (by omega), Option.bind_some]
    dsimp only
    rw [a23, r_byte t' (by omega), Option.bind_some]
    unfold F_X7_next_26
    dsimp only
    rw [a23, ← nI_succ]
    unfold zRbd zRsg
    rw [a23]
  by_cases hlt : k2 < m
  · rw [if_pos hlt] at st
    have hb := t.2.2.2.2 k2
    by_cases hl : zBlk (b k2) = true
    · right
      refine ⟨hlt, (k2 + 1, wI J' 46 23 (nI (k2 + 1))), ⟨rfl, (zSkip_go hlt hl).symm.trans hP, fr.tr (zFrN.wr (by omega)), ?_⟩, fun fu => ?_⟩
      · dsimp only; rw [wI_g, if_pos rfl]
      · unfold zBlk at hl
        rw [Bool.or_eq_true, decide_eq_true_eq, decide_eq_true_eq] at hl
        rw [st]
        rcases hl with hl | hl
        · rw [if_pos (by rw [hl]; rfl)]
        · rw [if_neg (by rw [hl]; decide), if_pos (by rw [hl]; rfl)]
    · left
      obtain ⟨r, h1, h2⟩ := fin (zSkip_no (fun q => hl q.2) _)
      refine ⟨r, h1, fun fu => ?_⟩
      unfold zBlk at hl
      rw [Bool.or_eq_true, decide_eq_true_eq, decide_eq_true_eq] at hl
      rw [st, if_neg (show ¬ nI (b k2) = (32 : Int32) from fun q => hl (Or.inl (i_inj (k := b k2) (m := 32) (by omega) (by omega) q))), if_neg (show ¬ nI (b k2) = (10 : Int32) from fun q => hl (Or.inr (i_inj (k := b k2) (m := 10) (by omega) (by omega) q)))]
      exact h2
  · rw [if_neg hlt] at st
    left
    obtain ⟨r, h1, h2⟩ := fin (zSkip_no (fun q => hlt q.1) _)
    exact ⟨r, h1, fun fu => by rw [st, if_neg (by decide), if_neg (by decide)]; exact h2⟩
end TN
