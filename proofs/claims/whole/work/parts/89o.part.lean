/-! text: a part of a TEXT -/
section PT
variable {J J1 J2 : zzJ} {b : Nat → Nat} {m p q e f i j k n r o c d K : Nat} {v x y z : Int32} {g : Bool} {W : zzJ → Option (Int32 × zzJ)}
theorem p_34 (v : Int32) (s : zRS b m f g p 0 J) (hp : p ≤ m) : (zTk b m g p = 11059 → ∃ J1, F_X7_part_34 v J = some (v, J1) ∧ zFrM J J1 ∧ zRS b m f (zOkT b m (zNt b m p)) (zNt b m p) 0 J1) ∧ (¬ zTk b m g p = 11059 → ∃ J1, F_X7_part_34 v J = some (v, J1) ∧ zFrM J J1 ∧ zRS b m f false p 0 J1) := by
  refine ⟨fun h => ?_, fun h => ?_⟩
  · obtain ⟨rfl, _⟩ := tk_is h (by decide)
    obtain ⟨J1, e1, f1, s1⟩ := rs_next s hp
    refine ⟨J1, ?_, f1, s1⟩
    unfold F_X7_part_34 F_X7_part_48
    rw [rs_s59 s, Option.bind_some]
    dsimp only
    rw [zOne_t h, if_neg n10, if_pos (rs_28 s rfl), e1, Option.bind_some]
  · obtain ⟨J1, e1, f1, s1, d1⟩ := rs_fail (x := 0) s
    refine ⟨J1, ?_, f1, s1⟩
    unfold F_X7_part_34 F_X7_part_48
    rw [rs_s59 s, Option.bind_some]
    dsimp only
    rw [zOne_f h, if_pos rfl, e1, Option.bind_some, if_neg (by rw [d1]; exact n10)]
theorem l_part (hm : m ≤ 160) (hK : K < 2147483646) (hW : ∀ (J : zzJ) (g : Bool) (p f : Nat), zRS b m f g p 0 J → W J = some (zOne (zTk b m g p = nI K), J)) : zLvl b m (fun J => Option.bind (F_X2_expect (nI K) J) fun q6 => Option.bind (E_X2_readOr 0 q6) fun q7 => F_X2_expect 11059 q7) (fun J => Option.bind (W J) fun q => F_X7_part q.1 q.2) 0 := by
  have lv := lv_or (b := b) hm
  intro g p hp
  by_cases hA : zTk b m g p = nI K
  · obtain ⟨rfl, hA2⟩ := tk_is hA (i_nm2 hK)
    have hlt := cd_lt (b := b) (m := m) (p := p) (by rw [hA2]; exact i_nm1 (by omega))
    have hnt := zNt_lt (b := b) hlt
    have hnm := (zNt_le (b := b) hp).2
    obtain ⟨g2, p2, d2, a1, a2, a3, a4, aC, aR⟩ := lv (zOkT b m (zNt b m p)) (zNt b m p) hnm
    have rr : ∀ (J : zzJ) (f : Nat), zRS b m f true p 0 J → ∃ v J1, (Option.bind (W J) fun q => F_X7_part q.1 q.2) = F_X7_part_34 v J1 ∧ zFrM J J1 ∧ zRS b m f g2 p2 0 J1 ∧ (g2 = true → v = d2 (fun k => J.2 46 (15 + k))) := by
      intro J f s
      obtain ⟨J1, e1, f1, s1⟩ := rs_next s hp
      rw [hW J true p f s, Option.bind_some]
      dsimp only
      unfold F_X7_part F_X7_part_8 F_X7_part_19
      rw [zOne_t hA, if_neg n10, if_pos (rs_28 s rfl), e1, Option.bind_some]
      rcases rs_28c s1 with d1 | ⟨d1, _⟩
      · have hg : zOkT b m (zNt b m p) = false := by
          cases hz : zOkT b m (zNt b m p)
          · rfl
          · have := rs_28 s1 hz
            rw [d1] at this
            exact absurd this n10
        obtain ⟨y1, y2⟩ := a3 hg
        subst y1 y2
        rw [hg] at s1
        exact ⟨0, J1, by rw [if_neg (by rw [d1]; exact n10)], f1, s1, fun q => absurd q (by decide)⟩
      · obtain ⟨v2, J2, e2, f2, s2, c2⟩ := aR J1 f s1
        exact ⟨v2, J2, by rw [if_pos d1, e2, Option.bind_some], f1.tr f2, s2, fun q => by rw [c2 q, a4 _ _ (fm_facts f1)]⟩
    have rc : ∀ (J : zzJ) (n r : Nat), zCS b m true p n r J → r + m ≤ 960 + p → ∃ J1 r', (Option.bind (F_X2_expect (nI K) J) fun q6 => Option.bind (E_X2_readOr 0 q6) fun q7 => F_X2_expect 11059 q7) = F_X2_expect 11059 J1 ∧ zFrD r J J1 ∧ zCS b m g2 p2 n r' J1 ∧ r ≤ r' ∧ r' + zNt b m p ≤ r + p2 ∧ (g2 = true → r < r' ∧ zSeg (J1.2 2) r r' d2) := by
      intro J n r s hr
      obtain ⟨J1, e1, f1, s1, _⟩ := cs_expect s hp hK
      obtain ⟨J2, r2, e2, f2, s2, c1, c2, c3⟩ := aC J1 n r (s1 hA) (by omega)
      exact ⟨J2, r2, by rw [e1, Option.bind_some, e2, Option.bind_some], f1.tr (Nat.le_refl r) f2, s2, c1, c2, c3⟩
    by_cases hE : zTk b m g2 p2 = 11059
    · obtain ⟨rfl, hE2⟩ := tk_is hE (by decide)
      have hn2 := zNt_le (b := b) a2
      refine ⟨zOkT b m (zNt b m p2), zNt b m p2, d2, by omega, hn2.2, fun q => absurd q (by decide), a4, fun J n r s hr => ?_, fun J f s => ?_⟩
      · obtain ⟨J1, r1, e1, f1, s1, c1, c2, c3⟩ := rc J n r s hr
        obtain ⟨J2, e2, f2, s2, _⟩ := cs_expect (c := 11059) s1 a2 (by omega)
        exact ⟨J2, r1, e1.trans e2, f1.tr c1 f2, s2 hE, c1, by omega, fun _ => ⟨(c3 rfl).1, (c3 rfl).2.of fun k _ hk => f2.2.2.2.2 k hk⟩⟩
      · obtain ⟨v1, J1, e1, f1, s1, c1⟩ := rr J f s
        obtain ⟨J2, e2, f2, s2⟩ := (p_34 v1 s1 a2).1 hE
        exact ⟨v1, J2, e1.trans e2, f1.tr f2, s2, fun _ => c1 rfl⟩
    · refine ⟨false, p2, d2, by omega, a2, fun q => absurd q (by decide), a4, fun J n r s hr => ?_, fun J f s => ?_⟩
      · obtain ⟨J1, r1, e1, f1, s1, c1, c2, c3⟩ := rc J n r s hr
        obtain ⟨J2, e2, f2, _, s2⟩ := cs_expect (c := 11059) s1 a2 (by omega)
        exact ⟨J2, r1, e1.trans e2, f1.tr c1 f2, s2 hE, c1, by omega, fun q => absurd q (by decide)⟩
      · obtain ⟨v1, J1, e1, f1, s1, c1⟩ := rr J f s
        obtain ⟨J2, e2, f2, s2⟩ := (p_34 v1 s1 a2).2 hE
        exact ⟨v1, J2, e1.trans e2, f1.tr f2, s2, fun q => absurd q (by decide)⟩
  · obtain ⟨g2, p2, d2, a1, a2, a3, a4, aC, aR⟩ := lv false p hp
    obtain ⟨y1, y2⟩ := a3 rfl
    subst y1 y2
    refine ⟨false, p2, fun _ => 0, Nat.le_refl p2, hp, fun q => ⟨rfl, rfl⟩, fun _ _ _ => rfl, fun J n r s hr => ?_, fun J f s => ?_⟩
    · obtain ⟨J1, e1, f1, _, s1⟩ := cs_expect s hp hK
      obtain ⟨J2, r2, e2, f2, s2, c1, c2, c3⟩ := aC J1 n r (s1 hA) (by omega)
      obtain ⟨J3, e3, f3, _, s3⟩ := cs_expect (c := 11059) s2 hp (by omega)
      exact ⟨J3, r2, by dsimp only; rw [e1, Option.bind_some, e2, Option.bind_some]; exact e3, (f1.tr (Nat.le_refl r) f2).tr c1 f3, s3 (tk_no (by omega)), c1, c2, fun q => absurd q (by decide)⟩
    · obtain ⟨J1, e1, f1, s1, d1⟩ := rs_fail (x := 0) s
      obtain ⟨J2, e2, f2, s2⟩ := (p_34 0 s1 hp).2 (tk_no (c := 11059) (by omega))
      refine ⟨0, J2, ?_, f1.tr f2, s2, fun q => absurd q (by decide)⟩
      dsimp only
      rw [hW J g p2 f s, Option.bind_some]
      dsimp only
      unfold F_X7_part F_X7_part_8 F_X7_part_19
      rw [zOne_f hA, if_pos rfl, e1, Option.bind_some, if_neg (by rw [d1]; exact n10), if_neg (by rw [d1]; exact n10), e2]
theorem rs_sounds (h : zRS b m f g p o J) : F_X7_isWord (115 : Int32) (111 : Int32) (117 : Int32) (110 : Int32) (100 : Int32) (115 : Int32) (0 : Int32) (0 : Int32) J = some (zOne (zTk b m g p = nI 10006), J) := rs_word (i := 6) h (by omega)
theorem rs_turns (h : zRS b m f g p o J) : F_X7_isWord (116 : Int32) (117 : Int32) (114 : Int32) (110 : Int32) (115 : Int32) (0 : Int32) (0 : Int32) (0 : Int32) J = some (zOne (zTk b m g p = nI 10007), J) := rs_word (i := 7) h (by omega)
theorem rs_joys (h : zRS b m f g p o J) : F_X7_isWord (106 : Int32) (111 : Int32) (121 : Int32) (115 : Int32) (0 : Int32) (0 : Int32) (0 : Int32) (0 : Int32) J = some (zOne (zTk b m g p = nI 10008), J) := rs_word (i := 8) h (by omega)
end PT
