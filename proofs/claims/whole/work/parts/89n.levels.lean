/-! text: the other levels; how deep they go -/
section LE
variable {J J1 J2 : zzJ} {b : Nat → Nat} {m p q e f i j k n r o c d : Nat} {v x y z : Int32} {g : Bool} {k1 k2 k3 : Int32 → zzJ → Option zzJ} {j1 j2 j3 : zzJ → Option (Int32 × zzJ)}
theorem jn_mul : zJnd 11042 x y = x * y := by
  unfold zJnd
  rw [if_neg (by decide), if_neg (by decide), if_pos rfl]
theorem jn_add : zJnd 11043 x y = x + y := by
  unfold zJnd
  rw [if_neg (by decide), if_neg (by decide), if_neg (by decide), if_pos rfl]
theorem jn_sub : zJnd 11045 x y = x - y := by
  unfold zJnd
  rw [if_neg (by decide), if_neg (by decide), if_neg (by decide), if_neg (by decide), if_pos rfl]
theorem jn_lss : zJnd 11060 x y = if x < y then 1 else 0 := by
  unfold zJnd
  rw [if_neg (by decide), if_neg (by decide), if_neg (by decide), if_neg (by decide), if_neg (by decide), if_pos rfl]
theorem jn_sam : zJnd 11061 x y = if x = y then 1 else 0 := by
  unfold zJnd
  rw [if_neg (by decide), if_neg (by decide), if_neg (by decide), if_neg (by decide), if_neg (by decide), if_neg (by decide), if_pos rfl]
theorem jn_or : zJnd 10009 x y = if x = 0 then (if y = 0 then 0 else 1) else 1 := by
  unfold zJnd
  rw [if_pos rfl]
theorem jn_and : zJnd 10010 x y = if x = 0 then 0 else (if y = 0 then 0 else 1) := by
  unfold zJnd
  rw [if_neg (by decide), if_pos rfl]
theorem bd_c {α β : Type} {x : Option α} {f g : α → Option β} (h : ∀ a, f a = g a) : Option.bind x f = Option.bind x g := by
  rw [show f = g from funext h]
theorem l_term (hm : m ≤ 160) (l1 : zLvl b m (F_X2_readOne k1 k2 k3 (nI o)) (F_X7_atom j1 j2 j3) o) : zLvl b m (F_X2_readTerm k1 k2 k3 (nI o)) (F_X7_term j1 j2 j3) o := by
  refine zLvl_out (S := fun x => x = 11042) (G := fun fu l J => F_X2_readTerm_7 k1 k2 k3 fu (nI o) l J) (H := fun fu v J => F_X7_term_5 j1 j2 j3 fu v J) hm (fun x h => ⟨11042, h, by omega⟩) l1 (fun fu l J => ⟨fun h => ?_, fun h => ?_⟩) (fun fu v J g p f s => ⟨fun h => ?_, fun h => ?_⟩) (fun _ => rfl) (fun _ => rfl)
  · have h' : J.2 5 5 = 11042 := h
    show F_X2_readTerm_7 k1 k2 k3 (fu + 1) (nI o) l J = _
    rw [F_X2_readTerm_7, if_pos h', h']
  · show F_X2_readTerm_7 k1 k2 k3 (fu + 1) (nI o) l J = _
    rw [F_X2_readTerm_7, if_neg h, ite_self]
  · have h' : zTk b m g p = 11042 := h
    show F_X7_term_5 j1 j2 j3 (fu + 1) v J = _
    rw [F_X7_term_5, rs_s42 s, Option.bind_some]
    dsimp only
    rw [zOne_t h', if_neg n10, h']
    simp only [jn_mul]
  · show F_X7_term_5 j1 j2 j3 (fu + 1) v J = _
    rw [F_X7_term_5, rs_s42 s, Option.bind_some]
    dsimp only
    rw [zOne_f h, if_pos rfl]
/-- a sign's worth -/
theorem rs_worth (s : zRS b m f true p o J) (h : zCd b m p = nI (11000 + c)) (hc : c < 64) (hd : d < 64) : (lg_cmp (J.1 46 26) (nI d).toInt64 = 0 ↔ c = d) := by
  obtain ⟨t, gr, _, _, _⟩ := rs_t s
  rcases cd_cases (b := b) (m := m) (p := p) with ⟨hk, e⟩ | ⟨hk, hlt, e | ⟨j, hj, e⟩⟩ | ⟨hk, hlt, e, v, hv, e2⟩ | ⟨hk, hlt, hb, e⟩ | ⟨hk, e⟩
  · exact absurd (h.symm.trans e) (i_nm1 (by omega))
  · exact absurd (h.symm.trans e) (i_nm2 (by omega))
  · have := i_inj (by omega) (by omega) (h.symm.trans e); omega
  · have := i_inj (by omega) (by omega) (h.symm.trans e2); omega
  · have := i_inj (by omega) (by omega) (h.symm.trans e)
    rw [gr.2.2.2.2 hk, lgc_8 _ (by omega) _ hd]
    omega
  · exact absurd (h.symm.trans e) (i_nm2 (by omega))
theorem l_plus (hm : m ≤ 160) (l1 : zLvl b m (F_X2_readTerm k1 k2 k3 (nI o)) (F_X7_term j1 j2 j3) o) : zLvl b m (F_X2_readSum k1 k2 k3 (nI o)) (F_X7_added j1 j2 j3) o := by
  refine zLvl_out (S := fun x => x = 11043 ∨ x = 11045) (G := fun fu l J => F_X2_readSum_7 k1 k2 k3 fu (nI o) l J) (H := fun fu v J => F_X7_added_5 j1 j2 j3 fu v J) hm (fun x h => ?_) l1 (fun fu l J => ⟨fun h => ?_, fun h => ?_⟩) (fun fu v J g p f s => ⟨fun h => ?_, fun h => ?_⟩) (fun _ => rfl) (fun _ => rfl)
  · rcases h with h | h
    · exact ⟨11043, h, by omega⟩
    · exact ⟨11045, h, by omega⟩
  · show F_X2_readSum_7 k1 k2 k3 (fu + 1) (nI o) l J = _
    rcases h with h | h
    · rw [F_X2_readSum_7, if_pos h]
      rfl
    · rw [F_X2_readSum_7, if_neg (show ¬ J.2 5 5 = (11043 : Int32) by rw [h]; decide), if_pos h]
      rfl
  · show F_X2_readSum_7 k1 k2 k3 (fu + 1) (nI o) l J = _
    rw [F_X2_readSum_7, if_neg (fun q => h (Or.inl q)), if_neg (fun q => h (Or.inr q)), ite_self]
  · show F_X7_added_5 j1 j2 j3 (fu + 1) v J = _
    rcases h with h | h
    · obtain ⟨rfl, h2⟩ := tk_is h (by decide)
      rw [F_X7_added_5, rs_s43 s, Option.bind_some]
      dsimp only
      rw [zOne_t h, if_neg n10, h]
      unfold F_X7_added_23 F_X7_added_39
      rw [if_pos (show lg_cmp (J.1 46 26) (43 : Int64) = 0 from (rs_worth (c := 43) (d := 43) s h2 (by omega) (by omega)).2 rfl)]
      simp only [jn_add, if_neg n10]
    · obtain ⟨rfl, h2⟩ := tk_is h (by decide)
      rw [F_X7_added_5, rs_s43 s, Option.bind_some]
      dsimp only
      rw [zOne_f (by rw [h]; decide), if_pos rfl, rs_s45 s, Option.bind_some]
      dsimp only
      rw [zOne_t h, if_neg n10, h]
      unfold F_X7_added_23 F_X7_added_39
      rw [if_neg (show ¬ lg_cmp (J.1 46 26) (43 : Int64) = 0 from fun q => absurd ((rs_worth (c := 45) (d := 43) s h2 (by omega) (by omega)).1 q) (by decide))]
      simp only [jn_sub, if_true]
  · show F_X7_added_5 j1 j2 j3 (fu + 1) v J = _
    rw [F_X7_added_5, rs_s43 s, Option.bind_some]
    dsimp only
    rw [zOne_f (fun q => h (Or.inl q)), if_pos rfl, rs_s45 s, Option.bind_some]
    dsimp only
    rw [zOne_f (fun q => h (Or.inr q)), if_pos rfl]
theorem l_and (hm : m ≤ 160) (l1 : zLvl b m (F_X2_readNot k1 k2 k3 (nI o)) (F_X7_not j1 j2 j3) o) : zLvl b m (F_X2_readAnd k1 k2 k3 (nI o)) (F_X7_both j1 j2 j3) o := by
  refine zLvl_out (S := fun x => x = 10010) (G := fun fu l J => F_X2_readAnd_7 k1 k2 k3 fu (nI o) l J) (H := fun fu v J => F_X7_both_5 j1 j2 j3 fu v J) hm (fun x h => ⟨10010, h, by omega⟩) l1 (fun fu l J => ⟨fun h => ?_, fun h => ?_⟩) (fun fu v J g p f s => ⟨fun h => ?_, fun h => ?_⟩) (fun _ => rfl) (fun _ => rfl)
  · have h' : J.2 5 5 = 10010 := h
    show F_X2_readAnd_7 k1 k2 k3 (fu + 1) (nI o) l J = _
    rw [F_X2_readAnd_7, if_pos h', h']
  · show F_X2_readAnd_7 k1 k2 k3 (fu + 1) (nI o) l J = _
    rw [F_X2_readAnd_7, if_neg h, ite_self]
  · have h' : zTk b m g p = 10010 := h
    show F_X7_both_5 j1 j2 j3 (fu + 1) v J = _
    rw [F_X7_both_5, rs_and s, Option.bind_some]
    dsimp only
    rw [zOne_t h', if_neg n10, h']
    refine bd_c fun a => bd_c fun c => ?_
    rw [jn_and]
    by_cases h0 : v = 0
    · rw [if_pos h0, if_pos h0]
    · rw [if_neg h0, if_neg h0]
      by_cases h1 : c.1 = 0
      · rw [if_pos h1, if_pos h1]
      · rw [if_neg h1, if_neg h1]
  · show F_X7_both_5 j1 j2 j3 (fu + 1) v J = _
    rw [F_X7_both_5, rs_and s, Option.bind_some]
    dsimp only
    rw [zOne_f h, if_pos rfl]
theorem l_or (hm : m ≤ 160) (l1 : zLvl b m (F_X2_readAnd k1 k2 k3 (nI o)) (F_X7_both j1 j2 j3) o) : zLvl b m (F_X2_readOr k1 k2 k3 (nI o)) (F_X7_either j1 j2 j3) o := by
  refine zLvl_out (S := fun x => x = 10009) (G := fun fu l J => F_X2_readOr_7 k1 k2 k3 fu (nI o) l J) (H := fun fu v J => F_X7_either_5 j1 j2 j3 fu v J) hm (fun x h => ⟨10009, h, by omega⟩) l1 (fun fu l J => ⟨fun h => ?_, fun h => ?_⟩) (fun fu v J g p f s => ⟨fun h => ?_, fun h => ?_⟩) (fun _ => rfl) (fun _ => rfl)
  · have h' : J.2 5 5 = 10009 := h
    show F_X2_readOr_7 k1 k2 k3 (fu + 1) (nI o) l J = _
    rw [F_X2_readOr_7, if_pos h', h']
  · show F_X2_readOr_7 k1 k2 k3 (fu + 1) (nI o) l J = _
    rw [F_X2_readOr_7, if_neg h, ite_self]
  · have h' : zTk b m g p = 10009 := h
    show F_X7_either_5 j1 j2 j3 (fu + 1) v J = _
    rw [F_X7_either_5, rs_or s, Option.bind_some]
    dsimp only
    rw [zOne_t h', if_neg n10, h']
    refine bd_c fun a => bd_c fun c => ?_
    rw [jn_or]
    by_cases h0 : v = 0
    · rw [if_pos h0, if_pos h0]
      by_cases h1 : c.1 = 0
      · rw [if_pos h1, if_pos h1]
      · rw [if_neg h1, if_neg h1]
    · rw [if_neg h0, if_neg h0]
  · show F_X7_either_5 j1 j2 j3 (fu + 1) v J = _
    rw [F_X7_either_5, rs_or s, Option.bind_some]
    dsimp only
    rw [zOne_f h, if_pos rfl]
theorem l_not (ho : o ≤ 5) (h2 : o < 5 → zLvl b m (k2 (nI (o + 1))) j2 (o + 1)) (ls : zLvl b m (F_X2_readSum k1 k2 k3 (nI o)) (F_X7_added j1 j2 j3) o) : zLvl b m (F_X2_readNot k1 k2 k3 (nI o)) (F_X7_not j1 j2 j3) o := by
  intro g p hp
  by_cases hA : zTk b m g p = 10011
  · obtain ⟨rfl, hA2⟩ := tk_is hA (by decide)
    have hlt := cd_lt (b := b) (m := m) (p := p) (by rw [hA2]; decide)
    have hnt := zNt_lt (b := b) hlt
    have hnm := (zNt_le (b := b) hp).2
    have eC : ∀ (J : zzJ) (n r : Nat), zCS b m true p n r J → F_X2_readNot k1 k2 k3 (nI o) J = Option.bind (F_X2_opens (nI o) J) fun q => if q.1 = 0 then some q.2 else Option.bind (k2 (nI (o + 1)) q.2) fun q2 => F_X5_add 10011 q2 := by
      intro J n r h
      unfold F_X2_readNot
      rw [cs_tk h, hA, if_pos rfl, nI_1]
      simp only [opt_id]
    have eR : ∀ (J : zzJ) (f : Nat), zRS b m f true p o J → F_X7_not j1 j2 j3 J = Option.bind (F_X7_opens J) fun q => if q.1 = 0 then some (0, q.2) else Option.bind (j2 q.2) fun q2 => some ((if q2.1 = 0 then 1 else 0), wI q2.2 46 27 (q2.2.2 46 27 - 1)) := by
      intro J f h
      unfold F_X7_not
      rw [rs_not h, Option.bind_some]
      dsimp only
      rw [zOne_t hA, if_neg n10]
      refine bd_c fun q => ?_
      by_cases hq : q.1 = 0
      · rw [if_pos hq, if_pos hq]
      · rw [if_neg hq, if_neg hq]
        refine bd_c fun q2 => ?_
        by_cases hq2 : q2.1 = 0
        · rw [if_pos hq2, if_pos hq2]
        · rw [if_neg hq2, if_neg hq2]
    by_cases h5 : o < 5
    · obtain ⟨g2, p2, d2, a1, a2, a3, a4, aC, aR⟩ := h2 h5 (zOkT b m (zNt b m p)) (zNt b m p) hnm
      refine ⟨g2, p2, fun f => if d2 f = 0 then 1 else 0, by omega, a2, fun q => absurd q (by decide), fun f f' q => by dsimp only; rw [a4 f f' q], fun J n r s hr => ?_, fun J f s => ?_⟩
      · obtain ⟨J1, e1, f1, s1⟩ := cs_opens s hp h5
        obtain ⟨J2, r2, e2, f2, s2, c1, c2, c3⟩ := aC J1 n r s1 (by omega)
        obtain ⟨J3, e3, f3, s3, w3⟩ := cs_add (v := 10011) s2 (by omega)
        refine ⟨J3, r2 + 1, ?_, (f1.tr (Nat.le_refl r) f2).tr c1 f3, s3, by omega, by omega, fun q => ⟨by omega, seg_not ((c3 q).2.of fun k _ hk => f3.2.2.2.2 k hk) (c3 q).1 (w3 q)⟩⟩
        rw [eC J n r s, e1, Option.bind_some]
        dsimp only
        rw [if_neg n10, e2, Option.bind_some, e3]
      · obtain ⟨J1, e1, f1, s1⟩ := rs_opens s hp h5
        obtain ⟨v2, J2, e2, f2, s2, c2⟩ := aR J1 f s1
        obtain ⟨J3, e3, f3, s3⟩ := rs_less s2
        refine ⟨(if v2 = 0 then 1 else 0), J3, ?_, (f1.tr f2).tr f3, s3, fun q => ?_⟩
        · rw [eR J f s, e1, Option.bind_some]
          dsimp only
          rw [if_neg n10, e2, Option.bind_some, ← e3]
        · rw [c2 q, a4 _ _ (fm_facts f1)]
    · obtain rfl : o = 5 := by omega
      refine ⟨false, p, fun _ => 0, Nat.le_refl p, hp, fun q => absurd q (by decide), fun _ _ _ => rfl, fun J n r s hr => ?_, fun J f s => ?_⟩
      · obtain ⟨J1, e1, f1, s1⟩ := cs_opens5 s hp
        refine ⟨J1, r, ?_, f1, s1, Nat.le_refl r, Nat.le_refl _, fun q => absurd q (by decide)⟩
        rw [eC J n r s, e1, Option.bind_some]
        exact if_pos rfl
      · obtain ⟨J1, e1, f1, s1⟩ := rs_opens5 (x := 5) s
        refine ⟨0, J1, ?_, f1, s1, fun q => absurd q (by decide)⟩
        rw [eR J f s, e1, Option.bind_some]
        exact if_pos rfl
  obtain ⟨g2, p2, d2, a1, a2, a3, a4, aC, aR⟩ := ls g p hp
  have eC : ∀ (J : zzJ) (n r : Nat), zCS b m g p n r J → F_X2_readNot k1 k2 k3 (nI o) J = Option.bind (F_X2_readSum k1 k2 k3 (nI o) J) fun q => if q.2 5 5 = 11060 then F_X2_readNot_60 k1 k2 k3 (nI o) (q.2 5 5) q else if q.2 5 5 = 11061 then F_X2_readNot_60 k1 k2 k3 (nI o) (q.2 5 5) q else some q := by
    intro J n r h
    unfold F_X2_readNot
    rw [cs_tk h, if_neg hA]
  have eR : ∀ (J : zzJ) (f : Nat), zRS b m f g p o J → F_X7_not j1 j2 j3 J = Option.bind (F_X7_added j1 j2 j3 J) fun q9 => Option.bind (F_X7_isSign 60 q9.2) fun q10 => if q10.1 = 0 then (Option.bind (F_X7_isSign 61 q10.2) fun q12 => if q12.1 = 0 then some (q9.1, q12.2) else F_X7_not_77 j1 j2 j3 q9.1 q12.2) else F_X7_not_77 j1 j2 j3 q9.1 q10.2 := by
    intro J f h
    unfold F_X7_not
    rw [rs_not h, Option.bind_some]
    dsimp only
    rw [zOne_f hA, if_pos rfl]
  by_cases hc : zTk b m g2 p2 = 11060 ∨ zTk b m g2 p2 = 11061
  · obtain ⟨op, eo, ho2⟩ : ∃ op, zTk b m g2 p2 = nI op ∧ (op = 11060 ∨ op = 11061) := by
      rcases hc with h | h
      · exact ⟨11060, h, Or.inl rfl⟩
      · exact ⟨11061, h, Or.inr rfl⟩
    obtain ⟨rfl, hc2⟩ := tk_is eo (i_nm2 (by omega))
    have hlt := cd_lt (b := b) (m := m) (p := p2) (by rw [hc2]; exact i_nm1 (by omega))
    have hnt := zNt_lt (b := b) hlt
    have hnm := (zNt_le (b := b) a2).2
    obtain ⟨g4, p4, d4, x1, x2, x3, x4, xC, xR⟩ := ls (zOkT b m (zNt b m p2)) (zNt b m p2) hnm
    refine ⟨g4, p4, fun f => zJnd (nI op) (d2 f) (d4 f), by omega, x2, fun q => absurd (a3 q).1 (by decide), fun f f' q => by dsimp only; rw [a4 f f' q, x4 f f' q], fun J n r s hr => ?_, fun J f s => ?_⟩
    · obtain ⟨J1, r1, e1, f1, s1, c1, c2, c3⟩ := aC J n r s hr
      obtain ⟨J2, e2, f2, s2⟩ := cs_adv s1 a2
      obtain ⟨J3, r3, e3, f3, s3, c4, c5, c6⟩ := xC J2 n r1 s2 (by omega)
      obtain ⟨J4, e4, f4, s4, w4⟩ := cs_add (v := nI op) s3 (by omega)
      refine ⟨J4, r3 + 1, ?_, ((f1.tr c1 f2).tr c1 f3).tr (by omega) f4, s4, by omega, by omega, fun q => ⟨by omega, seg_bin (by omega) ((c3 rfl).2.of fun k _ hk => ?_) ((c6 q).2.of fun k _ hk => f4.2.2.2.2 k hk) (c3 rfl).1 (by have := (c6 q).1; omega) (w4 q)⟩⟩
      · have e60 : F_X2_readNot_60 k1 k2 k3 (nI o) (nI op) J1 = some J4 := by
          unfold F_X2_readNot_60
          rw [e2, Option.bind_some, e3, Option.bind_some, e4, Option.bind_some]
        rw [eC J n r s, e1, Option.bind_some, cs_tk s1, eo, e60]
        rcases ho2 with rfl | rfl
        · exact if_pos rfl
        · exact (if_neg (by decide)).trans (if_pos rfl)
      · rw [f4.2.2.2.2 k (by omega), f3.2.2.2.2 k (by omega), f2.2.2.2.2 k (by omega)]
    · obtain ⟨v1, J1, e1, f1, s1, c1⟩ := aR J f s
      obtain ⟨J2, e2, f2, s2⟩ := rs_next s1 a2
      obtain ⟨v3, J3, e3, f3, s3, c3⟩ := xR J2 f s2
      refine ⟨zJnd (nI op) v1 v3, J3, ?_, (f1.tr f2).tr f3, s3, fun q => ?_⟩
      · have e93 : ∀ t0, F_X7_not_93 j1 j2 j3 v1 t0 J1 = some ((if t0 = 0 then (if v1 = v3 then 1 else 0) else (if v1 < v3 then 1 else 0)), J3) := by
          intro t0
          unfold F_X7_not_93
          rw [e2, Option.bind_some, e3, Option.bind_some]
          dsimp only
          by_cases h0 : t0 = 0
          · rw [if_pos h0, if_pos h0]
            by_cases h1 : v1 = v3
            · rw [if_pos h1, if_pos h1]
            · rw [if_neg h1, if_neg h1]
          · rw [if_neg h0, if_neg h0]
            by_cases h1 : v1 < v3
            · rw [if_pos h1, if_pos h1]
            · rw [if_neg h1, if_neg h1]
        rw [eR J f s, e1, Option.bind_some]
        dsimp only
        rw [rs_s60 s1, Option.bind_some]
        dsimp only
        rcases ho2 with rfl | rfl
        · rw [zOne_t (show zTk b m true p2 = (11060 : Int32) from eo), if_neg n10]
          unfold F_X7_not_77
          rw [if_pos (show lg_cmp (J1.1 46 26) (60 : Int64) = 0 from (rs_worth (c := 60) (d := 60) s1 hc2 (by omega) (by omega)).2 rfl), e93, if_neg n10]
          exact congrArg (fun v => some (v, J3)) jn_lss.symm
        · rw [zOne_f (by rw [eo]; decide), if_pos rfl, rs_s61 s1, Option.bind_some]
          dsimp only
          rw [zOne_t (show zTk b m true p2 = (11061 : Int32) from eo), if_neg n10]
          unfold F_X7_not_77
          rw [if_neg (show ¬ lg_cmp (J1.1 46 26) (60 : Int64) = 0 from fun q => absurd ((rs_worth (c := 61) (d := 60) s1 hc2 (by omega) (by omega)).1 q) (by decide)), e93, if_pos rfl]
          exact congrArg (fun v => some (v, J3)) jn_sam.symm
      · rw [c1 rfl, c3 q, x4 _ _ (fm_facts (f1.tr f2))]
  · refine ⟨g2, p2, d2, a1, a2, a3, a4, fun J n r s hr => ?_, fun J f s => ?_⟩
    · obtain ⟨J1, r1, e1, f1, s1, c1, c2, c3⟩ := aC J n r s hr
      refine ⟨J1, r1, ?_, f1, s1, c1, c2, c3⟩
      rw [eC J n r s, e1, Option.bind_some, cs_tk s1]
      exact (if_neg (fun q => hc (Or.inl q))).trans (if_neg (fun q => hc (Or.inr q)))
    · obtain ⟨v1, J1, e1, f1, s1, c1⟩ := aR J f s
      refine ⟨v1, J1, ?_, f1, s1, c1⟩
      rw [eR J f s, e1, Option.bind_some]
      dsimp only
      rw [rs_s60 s1, Option.bind_some]
      dsimp only
      rw [zOne_f (fun q => hc (Or.inl q)), if_pos rfl, rs_s61 s1, Option.bind_some]
      dsimp only
      rw [zOne_f (fun q => hc (Or.inr q)), if_pos rfl]
/-- all levels, as deep as six may be open -/
theorem lv_all (hm : m ≤ 160) : ∀ d o, o ≤ 5 → 6 ≤ o + d → zLvl b m ((R_X2_readOne d).1 (nI o)) (R_X7_atom d).2.2 o ∧ zLvl b m ((R_X2_readOne d).2.1 (nI o)) (R_X7_atom d).2.1 o ∧ zLvl b m ((R_X2_readOne d).2.2 (nI o)) (R_X7_atom d).1 o := by
  intro d
  induction d with
  | zero => intro o h1 h2; omega
  | succ d ih =>
    intro o h1 h2
    have k := fun h : o < 5 => ih (o + 1) (by omega) (by omega)
    have l1 := l_one (b := b) (m := m) (k1 := (R_X2_readOne d).1) (k2 := (R_X2_readOne d).2.1) (k3 := (R_X2_readOne d).2.2) (j1 := (R_X7_atom d).1) (j2 := (R_X7_atom d).2.1) (j3 := (R_X7_atom d).2.2) h1 (fun h => (k h).1) (fun h => (k h).2.2)
    have l3 := l_plus hm (l_term hm l1)
    have l4 := l_not h1 (fun h => (k h).2.1) l3
    exact ⟨l_or hm (l_and hm l4), l4, l1⟩
theorem lv_or (hm : m ≤ 160) : zLvl b m (E_X2_readOr 0) E_X7_either 0 := (lv_all (b := b) hm 9 0 (by omega) (by omega)).1
end LE
