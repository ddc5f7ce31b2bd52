/-! hat: the best of all orders, the class -/
section SK3
variable {E : zEv2} {s t n : Nat} {J J1 J2 : zzJ} {w v v' : zVw} {b i j k m : Nat} {P Q : Nat → Nat} {a a' : Nat → Int32} {u : Int32} {l : List Nat}
theorem t_nextL (hb : b ≤ 6) (hb0 : 0 < b) {p : List Nat} {r : List (List Nat)} (hl : zOk b p) (hc : zChn b (p :: r) = true) (h3 : J.2 33 3 = nI b) (ho : zRow J b (zLf p)) : ∃ g J1, F_X1_nextOrder J = some (g, J1) ∧ g = (if r = [] then 0 else 1) ∧ (∀ q r', r = q :: r' → zRow J1 b (zLf q)) ∧ zChn b r = true ∧ J1.1 = J.1 ∧ ∀ c, c ≠ 36 → J1.2 c = J.2 c := by
  have hv : ∀ i, i < b → zLf p i < 100 := fun i hi => by have := zLf_lt hl hi; omega
  rcases chn_next hc with ⟨rfl, hz⟩ | ⟨q, r', rfl, hc2, f, hz, hq⟩
  · rcases t_next hb hb0 h3 ho hv with ⟨_, e⟩ | ⟨f', J1, e1, _⟩
    · exact ⟨0, J, e, by rw [if_pos rfl], (fun q r' h => by cases h), rfl, rfl, fun _ _ => rfl⟩
    · rw [hz] at e1; cases e1
  · rcases t_next hb hb0 h3 ho hv with ⟨e0, _⟩ | ⟨f', J1, e1, e2, e3, e4, e5⟩
    · rw [hz] at e0; cases e0
    · rw [hz] at e1
      cases e1
      refine ⟨1, J1, e2, by rw [if_neg (by simp)], fun q2 r2 h => ?_, hc2, e4, e5⟩
      cases h
      intro i hi
      rw [zLf_map hq hi]
      exact e3 i hi
theorem t_seek29 (gw : zGoodV w s) (hf : zHf w s b P Q) (hb0 : 0 < b) (ht : w 0 3 = nI t) (htn : t < n) {J0 : zzJ} (c0 : zCx E n w J0) (hr : zHr J0 b P Q) (v0 : zVe w (zW 14 J0)) (ho : zRow J0 b (fun i => i)) : ∃ J1, F_X1_seek_29 4096 14 1 0 J0 = some J1 ∧ (J1.2 33 5, J1.2 33 4) = zHs (zVl E w t s b P Q) (zLL b) (0, 0) ∧ zFrC J0 J1 := by
  have hb := hf.1
  have h8 := gw.1
  have ll := LL_ok b (by omega) hb0
  rw [Bool.and_eq_true, Bool.and_eq_true, Bool.and_eq_true, decide_eq_true_eq, decide_eq_true_eq] at ll
  obtain ⟨⟨⟨lch, lok⟩, lhd⟩, llen⟩ := ll
  rw [List.all_eq_true] at lok
  generalize hT : zHs (zVl E w t s b P Q) (zLL b) (0, 0) = T
  generalize hLL : zLL b = LL at lch lok lhd llen hT
  refine zLoop (G := fun fu (q : Nat × Int32 × zzJ) => F_X1_seek_29 fu 14 q.2.1 (nI q.1) q.2.2) (P := fun k q => q.1 = k ∧ (∃ r v a, zVe v (zW 14 q.2.2) ∧ zArr w v s b P a ∧ zChn b r = true ∧ (∀ p, p ∈ r → zOk b p) ∧ k + r.length = LL.length ∧ q.2.1 = (if r = [] then 0 else 1) ∧ (∀ p r', r = p :: r' → zRow q.2.2 b (zLf p)) ∧ (k = 0 → r = LL) ∧ (0 < k → zHs (zVl E w t s b P Q) r (q.2.2.2 33 5, q.2.2.2 33 4) = T ∧ q.2.2.2 33 5 ≠ 0)) ∧ (∀ c, (c ≠ 4 ∧ c ≠ 18 ∧ c ≠ 19 ∧ c ≠ 20 ∧ c ≠ 33 ∧ c ≠ 36) → q.2.2.2 c = J0.2 c) ∧ q.2.2.2 33 3 = nI b ∧ q.2.2.1 = J0.1) (Q := fun r => ∃ J1, r = some J1 ∧ (J1.2 33 5, J1.2 33 4) = T ∧ zFrC J0 J1) (s := LL.length) ?_ LL.length 0 (0, 1, J0) (by omega) ⟨rfl, ⟨LL, w, _, v0, arr_w gw, lch, fun p hp => zOkl_ok (lok p hp), Nat.zero_add _, ?_, ?_, fun _ => rfl, fun h => absurd h (by omega)⟩, fun _ _ => rfl, hr.1, rfl⟩ 4096 (by omega)
  · rintro k ⟨k2, g, J'⟩ hk ⟨rfl, ⟨r, v1, a1, hv1, ha1, hch, hok, hlen, hg, hrow, h0, hpos⟩, p1, p33, p2⟩
    dsimp only at hk hv1 hlen hg hrow h0 hpos p1 p33 p2 ⊢
    have fin : zFrC J0 J' := ⟨p2, fun c hc => p1 c (by omega)⟩
    cases r with
    | nil =>
      left
      rw [if_pos rfl] at hg
      have hkpos : 0 < k2 := by
        rcases Nat.eq_zero_or_pos k2 with h | h
        · rw [← h0 h] at lhd; cases lhd
        · exact h
      refine ⟨_, ⟨J', rfl, (hpos hkpos).1, fin⟩, fun fu => ?_⟩
      rw [F_X1_seek_29, if_pos hg]
      split <;> rfl
    | cons p r' =>
      right
      rw [List.length_cons] at hlen
      rw [if_neg (by simp)] at hg
      have hlt : k2 < 720 := by omega
      have hop := hok p List.mem_cons_self
      have hrw := hrow p r' rfl
      have hr' : zHr J' b P Q := ⟨p33, fun i hi => by rw [p1 34 (by omega)]; exact hr.2.1 i hi, fun i hi => by rw [p1 35 (by omega)]; exact hr.2.2 i hi⟩
      obtain ⟨Ja, va, aa, ea, hva, haa, hvv, qa, oa⟩ := t_seatAll gw hf hop hr' hrw hv1 ha1
      obtain ⟨Jb, eb, sb⟩ := t_joy (E := E) (n := n) (t := t) zC14 hva ((congrFun (haa.1 0 (by omega)) 4).trans gw.2.1) h8 ((congrFun (haa.1 0 (by omega)) 3).trans ht) htn (by rw [oa 2 (by omega) (by omega), oa 3 (by omega) (by omega), p1 2 (by omega), p1 3 (by omega)]; exact c0.2)
      have eV : zJoy E va t s = zVl E w t s b P Q p := (zJoy_ve hvv).symm
      rw [eV] at eb
      have ob : ∀ c, (c ≠ 4 ∧ c ≠ 18 ∧ c ≠ 19 ∧ c ≠ 20) → Jb.2 c = J'.2 c := fun c hc => (sb.2 c hc.1 (by omega)).trans (oa c hc.2.1 hc.2.2.1)
      have hvb : zVe va (zW 14 Jb) := veW (fun c _ _ => sb.2 c (by omega) (by omega)) hva
      have b33 : Jb.2 33 = J'.2 33 := ob 33 (by omega)
      have hok' : ∀ q, q ∈ r' → zOk b q := fun q hq => hok q (List.mem_cons_of_mem _ hq)
      have st : ∀ fu, F_X1_seek_29 (fu + 1) 14 g (nI k2) J' = (if nI k2 = (0 : Int32) then F_X1_seek_64 (F_X1_seek_29 fu) 14 (nI k2) (zVl E w t s b P Q p) Jb else (if (J'.2 33 4) < zVl E w t s b P Q p then F_X1_seek_64 (F_X1_seek_29 fu) 14 (nI k2) (zVl E w t s b P Q p) Jb else (Option.bind (F_X1_nextOrder Jb) fun q10 => F_X1_seek_29 fu 14 q10.1 (nI (k2 + 1)) q10.2))) := by
        intro fu
        rw [F_X1_seek_29, if_pos (show nI k2 < (720 : Int32) from (i_lts (s := 720) (by omega) (by omega)).2 hlt), hg, if_neg n10, ea, Option.bind_some, if_pos (co_kd zC14), eb, Option.bind_some, ← nI_succ]
        dsimp only
        rw [b33]
      by_cases hsel : k2 = 0 ∨ (J'.2 33 4) < zVl E w t s b P Q p
      · have hrowb : zRow (wI Jb 33 4 (zVl E w t s b P Q p)) b (zLf p) := fun i hi => by rw [wI_ne (by omega), ob 36 (by omega)]; exact hrw i hi
        have hdg := t_digits (J := wI Jb 33 4 (zVl E w t s b P Q p)) hop hb (by rw [wI_g, if_neg (by omega), b33]; exact p33) hrowb
        generalize hJc : wI (wI Jb 33 4 (zVl E w t s b P Q p)) 33 5 (zDg p 0) = Jc
        have oc : ∀ c, c ≠ 33 → Jc.2 c = Jb.2 c := fun c hc => by rw [← hJc, wI_ne hc, wI_ne hc]
        have c33 : Jc.2 33 3 = nI b := by rw [← hJc, wI_g, if_neg (by omega), wI_g, if_neg (by omega), b33]; exact p33
        obtain ⟨g2, Jd, ed, hg2, hrd, hch2, qd, od⟩ := t_nextL hb hb0 hop hch c33 (fun i hi => by rw [oc 36 (by omega), ob 36 (by omega)]; exact hrw i hi)
        have d5 : Jd.2 33 5 = zDg p 0 := by rw [od 33 (by omega), ← hJc, wI_g, if_pos rfl]
        have d4 : Jd.2 33 4 = zVl E w t s b P Q p := by rw [od 33 (by omega), ← hJc, wI_g, if_neg (by omega), wI_g, if_pos rfl]
        have e64 : ∀ fu, F_X1_seek_64 (F_X1_seek_29 fu) 14 (nI k2) (zVl E w t s b P Q p) Jb = F_X1_seek_29 fu 14 g2 (nI (k2 + 1)) Jd := by
          intro fu
          unfold F_X1_seek_64
          rw [hdg, Option.bind_some]
          dsimp only
          rw [hJc, ed, Option.bind_some, ← nI_succ]
        refine ⟨by omega, (k2 + 1, g2, Jd), ⟨rfl, ⟨r', va, aa, veW (fun c _ _ => (od c (by omega)).trans (oc c (by omega))) hvb, haa, hch2, hok', by omega, hg2, hrd, fun h => absurd h (by omega), fun _ => ⟨?_, ?_⟩⟩, fun c hc => by dsimp only; rw [od c (by omega), oc c (by omega), ob c (by omega)]; exact p1 c hc, ?_, ?_⟩, fun fu => ?_⟩
        · dsimp only
          rw [d5, d4]
          by_cases hk0 : k2 = 0
          · rw [← hT, ← h0 hk0, zHs, if_pos (Or.inl rfl)]
          · have := (hpos (by omega)).1
            rw [zHs, if_pos (Or.inr (hsel.resolve_left hk0))] at this
            exact this
        · dsimp only
          rw [d5]
          exact dg_ne hop hb hb0
        · dsimp only
          rw [od 33 (by omega)]; exact c33
        · dsimp only
          rw [qd, ← hJc]
          exact sb.1.trans (qa.trans p2)
        · rw [st, e64]
          by_cases hk0 : k2 = 0
          · rw [if_pos (by rw [hk0]; rfl)]
          · rw [if_neg (fun e => hk0 (i_inj (by omega) (by omega) (e.trans (show (0 : Int32) = nI 0 from rfl)))), if_pos (hsel.resolve_left hk0)]
      · have hk0 : ¬ k2 = 0 := fun e => hsel (Or.inl e)
        have hnl : ¬ (J'.2 33 4) < zVl E w t s b P Q p := fun e => hsel (Or.inr e)
        obtain ⟨g2, Jd, ed, hg2, hrd, hch2, qd, od⟩ := t_nextL (J := Jb) hb hb0 hop hch (by rw [b33]; exact p33) (fun i hi => by rw [ob 36 (by omega)]; exact hrw i hi)
        have hp := hpos (by omega)
        have d33 : Jd.2 33 = J'.2 33 := (od 33 (by omega)).trans b33
        refine ⟨by omega, (k2 + 1, g2, Jd), ⟨rfl, ⟨r', va, aa, veW (fun c _ _ => od c (by omega)) hvb, haa, hch2, hok', by omega, hg2, hrd, fun h => absurd h (by omega), fun _ => ⟨?_, ?_⟩⟩, fun c hc => by dsimp only; rw [od c (by omega), ob c (by omega)]; exact p1 c hc, ?_, ?_⟩, fun fu => ?_⟩
        · dsimp only
          rw [d33]
          have := hp.1
          rw [zHs, if_neg (fun q => q.elim hp.2 hnl)] at this
          exact this
        · dsimp only
          rw [d33]; exact hp.2
        · dsimp only
          rw [d33]; exact p33
        · dsimp only
          rw [qd]
          exact sb.1.trans (qa.trans p2)
        · rw [st, if_neg (fun e => hk0 (i_inj (by omega) (by omega) (e.trans (show (0 : Int32) = nI 0 from rfl)))), if_neg hnl, ed, Option.bind_some]
  · rw [if_neg (by intro e; rw [e] at lhd; cases lhd)]
  · intro p r' e
    rw [e] at lhd
    have : p = List.range b := by simpa using lhd
    intro i hi
    rw [this, zLf_at (by simpa using hi)]
    simp
    exact ho i hi
theorem t_seek (gw : zGoodV w s) (hf : zHf w s b P Q) (hb0 : 0 < b) (ht : w 0 3 = nI t) (htn : t < n) {J0 : zzJ} (c0 : zCx E n w J0) (hr : zHr J0 b P Q) (v0 : zVe w (zW 14 J0)) : ∃ J1, F_X1_seek 14 J0 = some J1 ∧ (J1.2 33 5, J1.2 33 4) = zHs (zVl E w t s b P Q) (zLL b) (0, 0) ∧ zFrC J0 J1 := by
  have hb := hf.1
  unfold F_X1_seek
  refine zLoop (G := fun fu (q : Nat × zzJ) => F_X1_seek_2 fu 14 (nI q.1) q.2) (P := fun k q => q.1 = k ∧ (∀ i, i < k → q.2.2 36 i = nI i) ∧ q.2.1 = J0.1 ∧ ∀ c, c ≠ 36 → q.2.2 c = J0.2 c) (Q := fun r => ∃ J1, r = some J1 ∧ (J1.2 33 5, J1.2 33 4) = zHs (zVl E w t s b P Q) (zLL b) (0, 0) ∧ zFrC J0 J1) (s := b) ?_ b 0 (0, J0) (by omega) ⟨rfl, fun i hi => absurd hi (by omega), rfl, fun _ _ => rfl⟩ 4096 (by omega)
  rintro k ⟨k2, J'⟩ hk ⟨rfl, h36, p1, p2⟩
  dsimp only at hk h36 p1 p2 ⊢
  have h33 : J'.2 33 3 = nI b := by rw [p2 33 (by omega)]; exact hr.1
  by_cases hlt : k2 < b
  · right
    refine ⟨hlt, (k2 + 1, wI J' 36 k2 (nI k2)), ⟨rfl, fun i hi => ?_, p1, fun c hc => (wI_ne hc).trans (p2 c hc)⟩, fun fu => ?_⟩
    · dsimp only
      rw [wI_g]
      by_cases hik : i = k2
      · rw [if_pos hik, hik]
      · rw [if_neg hik]; exact h36 i (by omega)
    · rw [F_X1_seek_2, h33, if_pos ((i_lts (by omega) (by omega)).2 hlt), b_pt (z := 6) rfl rfl (by omega) (by omega), Option.bind_some, ← nI_succ]
  · left
    obtain rfl : k2 = b := by omega
    have fr : zFrC J0 J' := ⟨p1, fun c hc => p2 c (by omega)⟩
    obtain ⟨J3, e3, q3, f3⟩ := t_seek29 gw hf hb0 ht htn (c0.fr fr) ⟨h33, fun i hi => by rw [p2 34 (by omega)]; exact hr.2.1 i hi, fun i hi => by rw [p2 35 (by omega)]; exact hr.2.2 i hi⟩ (veW (fun c _ _ => p2 c (by omega)) v0) (fun i hi => h36 i hi)
    refine ⟨_, ⟨J3, rfl, q3, fr.tr f3⟩, fun fu => ?_⟩
    rw [F_X1_seek_2, h33, if_neg (fun q => hlt ((i_lts (by omega) (by omega)).1 q))]
    exact e3
end SK3
