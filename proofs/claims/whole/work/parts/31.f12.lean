/-! the methods as functions, and that they are (written by wip/whole/gen2.py) -/
/-! L_law -/
def F_L_law_18 : Nat → Int32 → zzJ → Option (Int32 × zzJ)
  | 0, _, _ => none
  | n + 1, l3, J => (if ((Int32.ofNat (J.1 2000 0).toNatClampNeg) - (6 : Int32)) < l3 then some ((1 : Int32), J) else (if zzIx l3 (J.1 2000 0).toNatClampNeg then (if ((J.2 2000 l3.toNatClampNeg) &&& (31 : Int32)) = 0 then (if zzIx (l3 + (1 : Int32)) (J.1 2000 0).toNatClampNeg then (if zzIx (l3 + (2 : Int32)) (J.1 2000 0).toNatClampNeg then (if zzIx (l3 + (3 : Int32)) (J.1 2000 0).toNatClampNeg then (Option.bind (F_X6_set (J.2 2000 (l3 + (1 : Int32)).toNatClampNeg) (J.2 2000 (l3 + (2 : Int32)).toNatClampNeg) (J.2 2000 (l3 + (3 : Int32)).toNatClampNeg) J) fun q7 => (if zzIx (l3 + (1 : Int32)) (q7.2.1 2000 0).toNatClampNeg then (if zzIx (l3 + (2 : Int32)) (q7.2.1 2000 0).toNatClampNeg then (if zzIx (l3 + (3 : Int32)) (q7.2.1 2000 0).toNatClampNeg then (Option.bind (F_X7_set (q7.2.2 2000 (l3 + (1 : Int32)).toNatClampNeg) (q7.2.2 2000 (l3 + (2 : Int32)).toNatClampNeg) (q7.2.2 2000 (l3 + (3 : Int32)).toNatClampNeg) q7.2) fun q11 => (if q7.1 = q11.1 then F_L_law_18 n (l3 + 6) q11.2 else some ((0 : Int32), q11.2))) else none) else none) else none)) else none) else none) else none) else (if ((J.2 2000 l3.toNatClampNeg) &&& (31 : Int32)) = 1 then (if zzIx (l3 + (1 : Int32)) (J.1 2000 0).toNatClampNeg then (if zzIx (l3 + (2 : Int32)) (J.1 2000 0).toNatClampNeg then (Option.bind (F_X6_passenger (J.2 2000 (l3 + (1 : Int32)).toNatClampNeg) (J.2 2000 (l3 + (2 : Int32)).toNatClampNeg) J) fun q16 => (if zzIx (l3 + (1 : Int32)) (q16.2.1 2000 0).toNatClampNeg then (if zzIx (l3 + (2 : Int32)) (q16.2.1 2000 0).toNatClampNeg then (Option.bind (F_X7_passenger (q16.2.2 2000 (l3 + (1 : Int32)).toNatClampNeg) (q16.2.2 2000 (l3 + (2 : Int32)).toNatClampNeg) q16.2) fun q19 => (if q16.1 = q19.1 then F_L_law_18 n (l3 + 6) q19.2 else some ((0 : Int32), q19.2))) else none) else none)) else none) else none) else (if ((J.2 2000 l3.toNatClampNeg) &&& (31 : Int32)) = 2 then (if zzIx (l3 + (1 : Int32)) (J.1 2000 0).toNatClampNeg then (if zzIx (l3 + (2 : Int32)) (J.1 2000 0).toNatClampNeg then (Option.bind (F_X6_sit (J.2 2000 (l3 + (1 : Int32)).toNatClampNeg) (J.2 2000 (l3 + (2 : Int32)).toNatClampNeg) J) fun q24 => (if zzIx (l3 + (1 : Int32)) (q24.2.1 2000 0).toNatClampNeg then (if zzIx (l3 + (2 : Int32)) (q24.2.1 2000 0).toNatClampNeg then (Option.bind (F_X7_sit (q24.2.2 2000 (l3 + (1 : Int32)).toNatClampNeg) (q24.2.2 2000 (l3 + (2 : Int32)).toNatClampNeg) q24.2) fun q27 => (if q24.1 = q27.1 then F_L_law_18 n (l3 + 6) q27.2 else some ((0 : Int32), q27.2))) else none) else none)) else none) else none) else (if ((J.2 2000 l3.toNatClampNeg) &&& (31 : Int32)) = 3 then (if zzIx (l3 + (1 : Int32)) (J.1 2000 0).toNatClampNeg then (if zzIx (l3 + (2 : Int32)) (J.1 2000 0).toNatClampNeg then (Option.bind (F_X6_told (J.2 2000 (l3 + (1 : Int32)).toNatClampNeg) (J.2 2000 (l3 + (2 : Int32)).toNatClampNeg) J) fun q32 => (if zzIx (l3 + (1 : Int32)) (q32.2.1 2000 0).toNatClampNeg then (if zzIx (l3 + (2 : Int32)) (q32.2.1 2000 0).toNatClampNeg then (Option.bind (F_X7_told (q32.2.2 2000 (l3 + (1 : Int32)).toNatClampNeg) (q32.2.2 2000 (l3 + (2 : Int32)).toNatClampNeg) q32.2) fun q35 => (if q32.1 = q35.1 then F_L_law_18 n (l3 + 6) q35.2 else some ((0 : Int32), q35.2))) else none) else none)) else none) else none) else (if ((J.2 2000 l3.toNatClampNeg) &&& (31 : Int32)) = 4 then (if zzIx (l3 + (1 : Int32)) (J.1 2000 0).toNatClampNeg then (Option.bind (F_X6_who (J.2 2000 (l3 + (1 : Int32)).toNatClampNeg) J) fun q39 => (if zzIx (l3 + (1 : Int32)) (q39.2.1 2000 0).toNatClampNeg then (Option.bind (F_X7_who (q39.2.2 2000 (l3 + (1 : Int32)).toNatClampNeg) q39.2) fun q41 => (if q39.1 = q41.1 then F_L_law_18 n (l3 + 6) q41.2 else some ((0 : Int32), q41.2))) else none)) else none) else (if ((J.2 2000 l3.toNatClampNeg) &&& (31 : Int32)) = 5 then (if zzIx (l3 + (1 : Int32)) (J.1 2000 0).toNatClampNeg then (Option.bind (F_X6_feed (J.2 2000 (l3 + (1 : Int32)).toNatClampNeg) J) fun q45 => (if zzIx (l3 + (1 : Int32)) (q45.2.1 2000 0).toNatClampNeg then (Option.bind (F_X7_feed (q45.2.2 2000 (l3 + (1 : Int32)).toNatClampNeg) q45.2) fun q47 => (if q45.1 = q47.1 then F_L_law_18 n (l3 + 6) q47.2 else some ((0 : Int32), q47.2))) else none)) else none) else (if ((J.2 2000 l3.toNatClampNeg) &&& (31 : Int32)) = 6 then (Option.bind (F_X6_text J) fun q50 => (Option.bind (F_X7_text q50.2) fun q51 => (if q50.1 = q51.1 then F_L_law_18 n (l3 + 6) q51.2 else some ((0 : Int32), q51.2)))) else (if ((J.2 2000 l3.toNatClampNeg) &&& (31 : Int32)) = 7 then (if zzIx (l3 + (1 : Int32)) (J.1 2000 0).toNatClampNeg then (Option.bind (F_X6_force (J.2 2000 (l3 + (1 : Int32)).toNatClampNeg) J) fun q55 => (if zzIx (l3 + (1 : Int32)) (q55.2.1 2000 0).toNatClampNeg then (Option.bind (F_X7_force (q55.2.2 2000 (l3 + (1 : Int32)).toNatClampNeg) q55.2) fun q57 => (if q55.1 = q57.1 then F_L_law_18 n (l3 + 6) q57.2 else some ((0 : Int32), q57.2))) else none)) else none) else (if ((J.2 2000 l3.toNatClampNeg) &&& (31 : Int32)) = 8 then (if zzIx (l3 + (1 : Int32)) (J.1 2000 0).toNatClampNeg then (Option.bind (F_X6_all (J.2 2000 (l3 + (1 : Int32)).toNatClampNeg) J) fun q61 => (if zzIx (l3 + (1 : Int32)) (q61.2.1 2000 0).toNatClampNeg then (Option.bind (F_X7_all (q61.2.2 2000 (l3 + (1 : Int32)).toNatClampNeg) q61.2) fun q63 => (if q61.1 = q63.1 then F_L_law_18 n (l3 + 6) q63.2 else some ((0 : Int32), q63.2))) else none)) else none) else (if ((J.2 2000 l3.toNatClampNeg) &&& (31 : Int32)) = 9 then (if zzIx (l3 + (1 : Int32)) (J.1 2000 0).toNatClampNeg then (if zzIx (l3 + (2 : Int32)) (J.1 2000 0).toNatClampNeg then (Option.bind (F_X6_ride (J.2 2000 (l3 + (1 : Int32)).toNatClampNeg) (J.2 2000 (l3 + (2 : Int32)).toNatClampNeg) J) fun q68 => (if zzIx (l3 + (1 : Int32)) (q68.2.1 2000 0).toNatClampNeg then (if zzIx (l3 + (2 : Int32)) (q68.2.1 2000 0).toNatClampNeg then (Option.bind (F_X7_ride (q68.2.2 2000 (l3 + (1 : Int32)).toNatClampNeg) (q68.2.2 2000 (l3 + (2 : Int32)).toNatClampNeg) q68.2) fun q71 => (if q68.1 = q71.1 then F_L_law_18 n (l3 + 6) q71.2 else some ((0 : Int32), q71.2))) else none) else none)) else none) else none) else (if ((J.2 2000 l3.toNatClampNeg) &&& (31 : Int32)) = 10 then (if zzIx (l3 + (1 : Int32)) (J.1 2000 0).toNatClampNeg then (if zzIx (l3 + (2 : Int32)) (J.1 2000 0).toNatClampNeg then (Option.bind (F_X6_best (J.2 2000 (l3 + (1 : Int32)).toNatClampNeg) (J.2 2000 (l3 + (2 : Int32)).toNatClampNeg) J) fun q76 => (if zzIx (l3 + (1 : Int32)) (q76.2.1 2000 0).toNatClampNeg then (if zzIx (l3 + (2 : Int32)) (q76.2.1 2000 0).toNatClampNeg then (Option.bind (F_X7_best (q76.2.2 2000 (l3 + (1 : Int32)).toNatClampNeg) (q76.2.2 2000 (l3 + (2 : Int32)).toNatClampNeg) q76.2) fun q79 => (if q76.1 = q79.1 then F_L_law_18 n (l3 + 6) q79.2 else some ((0 : Int32), q79.2))) else none) else none)) else none) else none) else (if ((J.2 2000 l3.toNatClampNeg) &&& (31 : Int32)) = 11 then (if zzIx (l3 + (1 : Int32)) (J.1 2000 0).toNatClampNeg then (Option.bind (F_X6_change (J.2 2000 (l3 + (1 : Int32)).toNatClampNeg) J) fun q83 => (if zzIx (l3 + (1 : Int32)) (q83.2.1 2000 0).toNatClampNeg then (Option.bind (F_X7_change (q83.2.2 2000 (l3 + (1 : Int32)).toNatClampNeg) q83.2) fun q85 => (if q83.1 = q85.1 then F_L_law_18 n (l3 + 6) q85.2 else some ((0 : Int32), q85.2))) else none)) else none) else (if ((J.2 2000 l3.toNatClampNeg) &&& (31 : Int32)) = 12 then (if zzIx (l3 + (1 : Int32)) (J.1 2000 0).toNatClampNeg then (Option.bind (F_X6_watch (J.2 2000 (l3 + (1 : Int32)).toNatClampNeg) J) fun q89 => (if zzIx (l3 + (1 : Int32)) (q89.2.1 2000 0).toNatClampNeg then (Option.bind (F_X7_watch (q89.2.2 2000 (l3 + (1 : Int32)).toNatClampNeg) q89.2) fun q91 => (if q89.1 = q91.1 then F_L_law_18 n (l3 + 6) q91.2 else some ((0 : Int32), q91.2))) else none)) else none) else (if ((J.2 2000 l3.toNatClampNeg) &&& (31 : Int32)) = 13 then (if zzIx (l3 + (1 : Int32)) (J.1 2000 0).toNatClampNeg then (if zzIx (l3 + (2 : Int32)) (J.1 2000 0).toNatClampNeg then (Option.bind (F_X6_hat (J.2 2000 (l3 + (1 : Int32)).toNatClampNeg) (J.2 2000 (l3 + (2 : Int32)).toNatClampNeg) J) fun q96 => (if zzIx (l3 + (1 : Int32)) (q96.2.1 2000 0).toNatClampNeg then (if zzIx (l3 + (2 : Int32)) (q96.2.1 2000 0).toNatClampNeg then (Option.bind (F_X7_hat (q96.2.2 2000 (l3 + (1 : Int32)).toNatClampNeg) (q96.2.2 2000 (l3 + (2 : Int32)).toNatClampNeg) q96.2) fun q99 => (if q96.1 = q99.1 then F_L_law_18 n (l3 + 6) q99.2 else some ((0 : Int32), q99.2))) else none) else none)) else none) else none) else (if ((J.2 2000 l3.toNatClampNeg) &&& (31 : Int32)) = 14 then (if zzIx (l3 + (1 : Int32)) (J.1 2000 0).toNatClampNeg then (if zzIx (l3 + (2 : Int32)) (J.1 2000 0).toNatClampNeg then (Option.bind (F_X6_front (J.2 2000 (l3 + (1 : Int32)).toNatClampNeg) (J.2 2000 (l3 + (2 : Int32)).toNatClampNeg) J) fun q104 => (if zzIx (l3 + (1 : Int32)) (q104.2.1 2000 0).toNatClampNeg then (if zzIx (l3 + (2 : Int32)) (q104.2.1 2000 0).toNatClampNeg then (Option.bind (F_X7_front (q104.2.2 2000 (l3 + (1 : Int32)).toNatClampNeg) (q104.2.2 2000 (l3 + (2 : Int32)).toNatClampNeg) q104.2) fun q107 => (if q104.1 = q107.1 then F_L_law_18 n (l3 + 6) q107.2 else some ((0 : Int32), q107.2))) else none) else none)) else none) else none) else (if ((J.2 2000 l3.toNatClampNeg) &&& (31 : Int32)) = 15 then (if zzIx (l3 + (1 : Int32)) (J.1 2000 0).toNatClampNeg then (if zzIx (l3 + (2 : Int32)) (J.1 2000 0).toNatClampNeg then (Option.bind (F_X6_stop (J.2 2000 (l3 + (1 : Int32)).toNatClampNeg) (J.2 2000 (l3 + (2 : Int32)).toNatClampNeg) J) fun q112 => (if zzIx (l3 + (1 : Int32)) (q112.2.1 2000 0).toNatClampNeg then (if zzIx (l3 + (2 : Int32)) (q112.2.1 2000 0).toNatClampNeg then (Option.bind (F_X7_stop (q112.2.2 2000 (l3 + (1 : Int32)).toNatClampNeg) (q112.2.2 2000 (l3 + (2 : Int32)).toNatClampNeg) q112.2) fun q115 => (if q112.1 = q115.1 then F_L_law_18 n (l3 + 6) q115.2 else some ((0 : Int32), q115.2))) else none) else none)) else none) else none) else (if ((J.2 2000 l3.toNatClampNeg) &&& (31 : Int32)) = 16 then (if zzIx (l3 + (1 : Int32)) (J.1 2000 0).toNatClampNeg then (if zzIx (l3 + (2 : Int32)) (J.1 2000 0).toNatClampNeg then (Option.bind (F_X6_tells (J.2 2000 (l3 + (1 : Int32)).toNatClampNeg) (J.2 2000 (l3 + (2 : Int32)).toNatClampNeg) J) fun q120 => (if zzIx (l3 + (1 : Int32)) (q120.2.1 2000 0).toNatClampNeg then (if zzIx (l3 + (2 : Int32)) (q120.2.1 2000 0).toNatClampNeg then (Option.bind (F_X7_tells (q120.2.2 2000 (l3 + (1 : Int32)).toNatClampNeg) (q120.2.2 2000 (l3 + (2 : Int32)).toNatClampNeg) q120.2) fun q123 => (if q120.1 = q123.1 then F_L_law_18 n (l3 + 6) q123.2 else some ((0 : Int32), q123.2))) else none) else none)) else none) else none) else (if ((J.2 2000 l3.toNatClampNeg) &&& (31 : Int32)) = 17 then (if zzIx (l3 + (1 : Int32)) (J.1 2000 0).toNatClampNeg then (Option.bind (F_X6_film (J.2 2000 (l3 + (1 : Int32)).toNatClampNeg) J) fun q127 => (if zzIx (l3 + (1 : Int32)) (q127.2.1 2000 0).toNatClampNeg then (Option.bind (F_X7_film (q127.2.2 2000 (l3 + (1 : Int32)).toNatClampNeg) q127.2) fun q129 => (if q127.1 = q129.1 then F_L_law_18 n (l3 + 6) q129.2 else some ((0 : Int32), q129.2))) else none)) else none) else (if ((J.2 2000 l3.toNatClampNeg) &&& (31 : Int32)) = 18 then (if zzIx (l3 + (1 : Int32)) (J.1 2000 0).toNatClampNeg then (Option.bind (F_X6_drawn (J.2 2000 (l3 + (1 : Int32)).toNatClampNeg) J) fun q133 => (if zzIx (l3 + (1 : Int32)) (q133.2.1 2000 0).toNatClampNeg then (Option.bind (F_X7_drawn (q133.2.2 2000 (l3 + (1 : Int32)).toNatClampNeg) q133.2) fun q135 => (if q133.1 = q135.1 then F_L_law_18 n (l3 + 6) q135.2 else some ((0 : Int32), q135.2))) else none)) else none) else (if ((J.2 2000 l3.toNatClampNeg) &&& (31 : Int32)) = 19 then (if zzIx (l3 + (1 : Int32)) (J.1 2000 0).toNatClampNeg then (if zzIx (l3 + (2 : Int32)) (J.1 2000 0).toNatClampNeg then (if zzIx (l3 + (3 : Int32)) (J.1 2000 0).toNatClampNeg then (Option.bind (F_X6_chance (J.2 2000 (l3 + (1 : Int32)).toNatClampNeg) (J.2 2000 (l3 + (2 : Int32)).toNatClampNeg) (J.2 2000 (l3 + (3 : Int32)).toNatClampNeg) J) fun q141 => (if zzIx (l3 + (1 : Int32)) (q141.2.1 2000 0).toNatClampNeg then (if zzIx (l3 + (2 : Int32)) (q141.2.1 2000 0).toNatClampNeg then (if zzIx (l3 + (3 : Int32)) (q141.2.1 2000 0).toNatClampNeg then (Option.bind (F_X7_chance (q141.2.2 2000 (l3 + (1 : Int32)).toNatClampNeg) (q141.2.2 2000 (l3 + (2 : Int32)).toNatClampNeg) (q141.2.2 2000 (l3 + (3 : Int32)).toNatClampNeg) q141.2) fun q145 => (if (lg_cmp q141.1 q145.1) = (0 : Int32) then F_L_law_18 n (l3 + 6) q145.2 else some ((0 : Int32), q145.2))) else none) else none) else none)) else none) else none) else none) else (if ((J.2 2000 l3.toNatClampNeg) &&& (31 : Int32)) = 20 then (Option.bind (F_X6_image J) fun q148 => (Option.bind (F_X7_image q148.2) fun q149 => (if q148.1 = q149.1 then F_L_law_18 n (l3 + 6) q149.2 else some ((0 : Int32), q149.2)))) else (if ((J.2 2000 l3.toNatClampNeg) &&& (31 : Int32)) = 21 then (Option.bind (F_X6_back J) fun q152 => (Option.bind (F_X7_back q152.2) fun q153 => (if q152.1 = q153.1 then F_L_law_18 n (l3 + 6) q153.2 else some ((0 : Int32), q153.2)))) else (if ((J.2 2000 l3.toNatClampNeg) &&& (31 : Int32)) = 22 then (if zzIx (l3 + (1 : Int32)) (J.1 2000 0).toNatClampNeg then (Option.bind (F_X6_count (J.2 2000 (l3 + (1 : Int32)).toNatClampNeg) J) fun q157 => (if zzIx (l3 + (1 : Int32)) (q157.2.1 2000 0).toNatClampNeg then (Option.bind (F_X7_count (q157.2.2 2000 (l3 + (1 : Int32)).toNatClampNeg) q157.2) fun q159 => (if q157.1 = q159.1 then F_L_law_18 n (l3 + 6) q159.2 else some ((0 : Int32), q159.2))) else none)) else none) else (if ((J.2 2000 l3.toNatClampNeg) &&& (31 : Int32)) = 23 then (if zzIx (l3 + (1 : Int32)) (J.1 2000 0).toNatClampNeg then (if zzIx (l3 + (2 : Int32)) (J.1 2000 0).toNatClampNeg then (if zzIx (l3 + (3 : Int32)) (J.1 2000 0).toNatClampNeg then (Option.bind (F_X6_sheet (J.2 2000 (l3 + (1 : Int32)).toNatClampNeg) (J.2 2000 (l3 + (2 : Int32)).toNatClampNeg) (J.2 2000 (l3 + (3 : Int32)).toNatClampNeg) J) fun q165 => (if zzIx (l3 + (1 : Int32)) (q165.2.1 2000 0).toNatClampNeg then (if zzIx (l3 + (2 : Int32)) (q165.2.1 2000 0).toNatClampNeg then (if zzIx (l3 + (3 : Int32)) (q165.2.1 2000 0).toNatClampNeg then (Option.bind (F_X7_sheet (q165.2.2 2000 (l3 + (1 : Int32)).toNatClampNeg) (q165.2.2 2000 (l3 + (2 : Int32)).toNatClampNeg) (q165.2.2 2000 (l3 + (3 : Int32)).toNatClampNeg) q165.2) fun q169 => (if q165.1 = q169.1 then F_L_law_18 n (l3 + 6) q169.2 else some ((0 : Int32), q169.2))) else none) else none) else none)) else none) else none) else none) else (if ((J.2 2000 l3.toNatClampNeg) &&& (31 : Int32)) = 24 then (if zzIx (l3 + (1 : Int32)) (J.1 2000 0).toNatClampNeg then (if zzIx (l3 + (2 : Int32)) (J.1 2000 0).toNatClampNeg then (if zzIx (l3 + (3 : Int32)) (J.1 2000 0).toNatClampNeg then (Option.bind (F_X6_cell (J.2 2000 (l3 + (1 : Int32)).toNatClampNeg) (J.2 2000 (l3 + (2 : Int32)).toNatClampNeg) (J.2 2000 (l3 + (3 : Int32)).toNatClampNeg) J) fun q175 => (if zzIx (l3 + (1 : Int32)) (q175.2.1 2000 0).toNatClampNeg then (if zzIx (l3 + (2 : Int32)) (q175.2.1 2000 0).toNatClampNeg then (if zzIx (l3 + (3 : Int32)) (q175.2.1 2000 0).toNatClampNeg then (Option.bind (F_X7_cell (q175.2.2 2000 (l3 + (1 : Int32)).toNatClampNeg) (q175.2.2 2000 (l3 + (2 : Int32)).toNatClampNeg) (q175.2.2 2000 (l3 + (3 : Int32)).toNatClampNeg) q175.2) fun q179 => (if q175.1 = q179.1 then F_L_law_18 n (l3 + 6) q179.2 else some ((0 : Int32), q179.2))) else none) else none) else none)) else none) else none) else none) else (if ((J.2 2000 l3.toNatClampNeg) &&& (31 : Int32)) = 25 then (if zzIx (l3 + (1 : Int32)) (J.1 2000 0).toNatClampNeg then (if zzIx (l3 + (2 : Int32)) (J.1 2000 0).toNatClampNeg then (if zzIx (l3 + (3 : Int32)) (J.1 2000 0).toNatClampNeg then (if zzIx (l3 + (4 : Int32)) (J.1 2000 0).toNatClampNeg then (if zzIx (l3 + (5 : Int32)) (J.1 2000 0).toNatClampNeg then (Option.bind (F_X6_copy (J.2 2000 (l3 + (1 : Int32)).toNatClampNeg) (J.2 2000 (l3 + (2 : Int32)).toNatClampNeg) (J.2 2000 (l3 + (3 : Int32)).toNatClampNeg) (J.2 2000 (l3 + (4 : Int32)).toNatClampNeg) (J.2 2000 (l3 + (5 : Int32)).toNatClampNeg) J) fun q187 => (if zzIx (l3 + (1 : Int32)) (q187.2.1 2000 0).toNatClampNeg then (if zzIx (l3 + (2 : Int32)) (q187.2.1 2000 0).toNatClampNeg then (if zzIx (l3 + (3 : Int32)) (q187.2.1 2000 0).toNatClampNeg then (if zzIx (l3 + (4 : Int32)) (q187.2.1 2000 0).toNatClampNeg then (if zzIx (l3 + (5 : Int32)) (q187.2.1 2000 0).toNatClampNeg then (Option.bind (F_X7_copy (q187.2.2 2000 (l3 + (1 : Int32)).toNatClampNeg) (q187.2.2 2000 (l3 + (2 : Int32)).toNatClampNeg) (q187.2.2 2000 (l3 + (3 : Int32)).toNatClampNeg) (q187.2.2 2000 (l3 + (4 : Int32)).toNatClampNeg) (q187.2.2 2000 (l3 + (5 : Int32)).toNatClampNeg) q187.2) fun q193 => (if q187.1 = q193.1 then F_L_law_18 n (l3 + 6) q193.2 else some ((0 : Int32), q193.2))) else none) else none) else none) else none) else none)) else none) else none) else none) else none) else none) else (if ((J.2 2000 l3.toNatClampNeg) &&& (31 : Int32)) = 26 then (if zzIx (l3 + (1 : Int32)) (J.1 2000 0).toNatClampNeg then (if zzIx (l3 + (2 : Int32)) (J.1 2000 0).toNatClampNeg then (if zzIx (l3 + (3 : Int32)) (J.1 2000 0).toNatClampNeg then (if zzIx (l3 + (4 : Int32)) (J.1 2000 0).toNatClampNeg then (Option.bind (F_X6_passengers (J.2 2000 (l3 + (1 : Int32)).toNatClampNeg) (J.2 2000 (l3 + (2 : Int32)).toNatClampNeg) (J.2 2000 (l3 + (3 : Int32)).toNatClampNeg) (J.2 2000 (l3 + (4 : Int32)).toNatClampNeg) J) fun q200 => (if zzIx (l3 + (1 : Int32)) (q200.2.1 2000 0).toNatClampNeg then (if zzIx (l3 + (2 : Int32)) (q200.2.1 2000 0).toNatClampNeg then (if zzIx (l3 + (3 : Int32)) (q200.2.1 2000 0).toNatClampNeg then (if zzIx (l3 + (4 : Int32)) (q200.2.1 2000 0).toNatClampNeg then (Option.bind (F_X7_passengers (q200.2.2 2000 (l3 + (1 : Int32)).toNatClampNeg) (q200.2.2 2000 (l3 + (2 : Int32)).toNatClampNeg) (q200.2.2 2000 (l3 + (3 : Int32)).toNatClampNeg) (q200.2.2 2000 (l3 + (4 : Int32)).toNatClampNeg) q200.2) fun q205 => (if q200.1 = q205.1 then F_L_law_18 n (l3 + 6) q205.2 else some ((0 : Int32), q205.2))) else none) else none) else none) else none)) else none) else none) else none) else none) else (if ((J.2 2000 l3.toNatClampNeg) &&& (31 : Int32)) = 27 then (if zzIx (l3 + (1 : Int32)) (J.1 2000 0).toNatClampNeg then (if zzIx (l3 + (2 : Int32)) (J.1 2000 0).toNatClampNeg then (Option.bind (F_X6_taken (J.2 2000 (l3 + (1 : Int32)).toNatClampNeg) (J.2 2000 (l3 + (2 : Int32)).toNatClampNeg) J) fun q210 => (if zzIx (l3 + (1 : Int32)) (q210.2.1 2000 0).toNatClampNeg then (if zzIx (l3 + (2 : Int32)) (q210.2.1 2000 0).toNatClampNeg then (Option.bind (F_X7_taken (q210.2.2 2000 (l3 + (1 : Int32)).toNatClampNeg) (q210.2.2 2000 (l3 + (2 : Int32)).toNatClampNeg) q210.2) fun q213 => (if q210.1 = q213.1 then F_L_law_18 n (l3 + 6) q213.2 else some ((0 : Int32), q213.2))) else none) else none)) else none) else none) else F_L_law_18 n (l3 + 6) J)))))))))))))))))))))))))))) else none))
set_option maxRecDepth 100000 in
set_option maxHeartbeats 2000000 in
theorem G_L_law_18 {d : Nat} (hd : 865 ≤ d) : ∀ (n : Nat) (l3 : Int32) (J : zzJ) (r : Int32 × zzJ), F_L_law_18 n l3 J = some r → zzEv d 213 18 [.ref 2000, .ref 0, .ref 46, .int l3] [] (zK J) (some (.int r.1), zK r.2) := by
  intro n
  induction n with
  | zero => intro l3 J r h; simp [F_L_law_18] at h
  | succ n ih =>
    intro l3 J r h
    rw [F_L_law_18] at h
    refine ev_iload_n zo_213_18 rfl rfl rfl ?_
    refine ev_aload_n zo_213_19 rfl rfl rfl rfl ?_
    refine ev_slen zo_213_20 rfl ?_
    refine ev_bipush (x := 6) zo_213_21 (by decide) rfl ?_
    refine ev_isub zo_213_23 rfl ?_
    by_cases c1 : ((Int32.ofNat (J.1 2000 0).toNatClampNeg) - (6 : Int32)) < l3
    · rw [if_pos c1] at h
      refine ev_cmp_t (t := 1031) zo_213_24 rfl (zcm_gt c1) ?_
      refine ev_iconst (x := 1) zo_213_1031 (by decide) rfl ?_
      obtain rfl := Option.some.inj h
      exact ev_retZ zo_213_1032 zr_213 (Or.inr rfl)
    rw [if_neg c1] at h
    refine ev_cmp_f (t := 1031) zo_213_24 rfl (zcm_ngt c1) rfl ?_
    refine ev_aload_n zo_213_27 rfl rfl rfl rfl ?_
    refine ev_iload_n zo_213_28 rfl rfl rfl ?_
    obtain ⟨c2, h⟩ := zz_chk h
    refine ev_sald zo_213_29 c2 rfl ?_
    refine ev_bipush (x := 31) zo_213_30 (by decide) rfl ?_
    refine ev_iand zo_213_32 rfl ?_
    by_cases s3 : ((J.2 2000 l3.toNatClampNeg) &&& (31 : Int32)) = 0
    · rw [if_pos s3] at h
      refine ev_tableIn (t := 160) zo_213_33 s3 rfl ?_
      refine ev_aload_n zo_213_160 rfl rfl rfl rfl ?_
      refine ev_aload_n zo_213_161 rfl rfl rfl rfl ?_
      refine ev_iload_n zo_213_162 rfl rfl rfl ?_
      refine ev_iconst (x := 1) zo_213_163 (by decide) rfl ?_
      refine ev_iadd zo_213_164 rfl ?_
      obtain ⟨c4, h⟩ := zz_chk h
      refine ev_sald zo_213_165 c4 rfl ?_
      refine ev_aload_n zo_213_166 rfl rfl rfl rfl ?_
      refine ev_iload_n zo_213_167 rfl rfl rfl ?_
      refine ev_iconst (x := 2) zo_213_168 (by decide) rfl ?_
      refine ev_iadd zo_213_169 rfl ?_
      obtain ⟨c5, h⟩ := zz_chk h
      refine ev_sald zo_213_170 c5 rfl ?_
      refine ev_aload_n zo_213_171 rfl rfl rfl rfl ?_
      refine ev_iload_n zo_213_172 rfl rfl rfl ?_
      refine ev_iconst (x := 3) zo_213_173 (by decide) rfl ?_
      refine ev_iadd zo_213_174 rfl ?_
      obtain ⟨c6, h⟩ := zz_chk h
      refine ev_sald zo_213_175 c6 rfl ?_
      obtain ⟨q7, hq7, h⟩ := zz_bd h
      refine ev_cV (as := [.int (J.2 2000 (l3 + (3 : Int32)).toNatClampNeg), .int (J.2 2000 (l3 + (2 : Int32)).toNatClampNeg), .int (J.2 2000 (l3 + (1 : Int32)).toNatClampNeg)]) (lsn := [.ref 0, .int (J.2 2000 (l3 + (1 : Int32)).toNatClampNeg), .int (J.2 2000 (l3 + (2 : Int32)).toNatClampNeg), .int (J.2 2000 (l3 + (3 : Int32)).toNatClampNeg)]) (by omega) zo_213_176 zl_213_13 (by rw [zm_82]; rfl) (by rw [zm_82]; exact rfl) (by rw [zm_82]; decide) (by unfold zzIn; rw [zm_82]; rfl) (by rw [zm_82]; exact Nat.le_of_ble_eq_true rfl) (Nat.le_of_ble_eq_true rfl) (G_X6_set (by omega) (J.2 2000 (l3 + (1 : Int32)).toNatClampNeg) (J.2 2000 (l3 + (2 : Int32)).toNatClampNeg) (J.2 2000 (l3 + (3 : Int32)).toNatClampNeg) J q7 hq7) rfl ?_
      show zzEv _ _ _ _ [.int q7.1] _ _
      refine ev_aload_n zo_213_179 rfl rfl rfl rfl ?_
      refine ev_aload_n zo_213_180 rfl rfl rfl rfl ?_
      refine ev_iload_n zo_213_181 rfl rfl rfl ?_
      refine ev_iconst (x := 1) zo_213_182 (by decide) rfl ?_
      refine ev_iadd zo_213_183 rfl ?_
      obtain ⟨c8, h⟩ := zz_chk h
      refine ev_sald zo_213_184 c8 rfl ?_
      refine ev_aload_n zo_213_185 rfl rfl rfl rfl ?_
      refine ev_iload_n zo_213_186 rfl rfl rfl ?_
      refine ev_iconst (x := 2) zo_213_187 (by decide) rfl ?_
      refine ev_iadd zo_213_188 rfl ?_
      obtain ⟨c9, h⟩ := zz_chk h
      refine ev_sald zo_213_189 c9 rfl ?_
      refine ev_aload_n zo_213_190 rfl rfl rfl rfl ?_
      refine ev_iload_n zo_213_191 rfl rfl rfl ?_
      refine ev_iconst (x := 3) zo_213_192 (by decide) rfl ?_
      refine ev_iadd zo_213_193 rfl ?_
      obtain ⟨c10, h⟩ := zz_chk h
      refine ev_sald zo_213_194 c10 rfl ?_
      obtain ⟨q11, hq11, h⟩ := zz_bd h
      refine ev_cV (as := [.int (q7.2.2 2000 (l3 + (3 : Int32)).toNatClampNeg), .int (q7.2.2 2000 (l3 + (2 : Int32)).toNatClampNeg), .int (q7.2.2 2000 (l3 + (1 : Int32)).toNatClampNeg)]) (lsn := [.ref 46, .int (q7.2.2 2000 (l3 + (1 : Int32)).toNatClampNeg), .int (q7.2.2 2000 (l3 + (2 : Int32)).toNatClampNeg), .int (q7.2.2 2000 (l3 + (3 : Int32)).toNatClampNeg), zzU]) (by omega) zo_213_195 zl_213_17 (by rw [zm_143]; rfl) (by rw [zm_143]; exact rfl) (by rw [zm_143]; decide) (by unfold zzIn; rw [zm_143]; rfl) (by rw [zm_143]; exact Nat.le_of_ble_eq_true rfl) (Nat.le_of_ble_eq_true rfl) (G_X7_set (by omega) (q7.2.2 2000 (l3 + (1 : Int32)).toNatClampNeg) (q7.2.2 2000 (l3 + (2 : Int32)).toNatClampNeg) (q7.2.2 2000 (l3 + (3 : Int32)).toNatClampNeg) q7.2 q11 hq11) rfl ?_
      show zzEv _ _ _ _ [.int q11.1, .int q7.1] _ _
      by_cases c12 : q7.1 = q11.1
      · rw [if_pos c12] at h
        refine ev_cmp_t (t := 1025) zo_213_198 rfl (zcm_eq c12) ?_
        refine ev_iinc (v := 6) zo_213_1025 rfl (by decide) (zz_set rfl (by decide) (Nat.le_of_ble_eq_true rfl)) rfl ?_
        show zzEv _ _ _ [.ref 2000, .ref 0, .ref 46, .int (l3 + 6)] _ _ _
        refine ev_goto (t := 18) zo_213_1028 rfl ?_
        exact ih (l3 + 6) q11.2 r h
      rw [if_neg c12] at h
      refine ev_cmp_f (t := 1025) zo_213_198 rfl (zcm_neq c12) rfl ?_
      refine ev_iconst (x := 0) zo_213_201 (by decide) rfl ?_
      obtain rfl := Option.some.inj h
      exact ev_retZ zo_213_202 zr_213 (Or.inl rfl)
    rw [if_neg s3] at h
    by_cases s13 : ((J.2 2000 l3.toNatClampNeg) &&& (31 : Int32)) = 1
    · rw [if_pos s13] at h
      refine ev_tableIn (t := 203) zo_213_33 s13 rfl ?_
      refine ev_aload_n zo_213_203 rfl rfl rfl rfl ?_
      refine ev_aload_n zo_213_204 rfl rfl rfl rfl ?_
      refine ev_iload_n zo_213_205 rfl rfl rfl ?_
      refine ev_iconst (x := 1) zo_213_206 (by decide) rfl ?_
      refine ev_iadd zo_213_207 rfl ?_
      obtain ⟨c14, h⟩ := zz_chk h
      refine ev_sald zo_213_208 c14 rfl ?_
      refine ev_aload_n zo_213_209 rfl rfl rfl rfl ?_
      refine ev_iload_n zo_213_210 rfl rfl rfl ?_
      refine ev_iconst (x := 2) zo_213_211 (by decide) rfl ?_
      refine ev_iadd zo_213_212 rfl ?_
      obtain ⟨c15, h⟩ := zz_chk h
      refine ev_sald zo_213_213 c15 rfl ?_
      obtain ⟨q16, hq16, h⟩ := zz_bd h
      refine ev_cV (as := [.int (J.2 2000 (l3 + (2 : Int32)).toNatClampNeg), .int (J.2 2000 (l3 + (1 : Int32)).toNatClampNeg)]) (lsn := [.ref 0, .int (J.2 2000 (l3 + (1 : Int32)).toNatClampNeg), .int (J.2 2000 (l3 + (2 : Int32)).toNatClampNeg)]) (by omega) zo_213_214 zl_213_18 (by rw [zm_84]; rfl) (by rw [zm_84]; exact rfl) (by rw [zm_84]; decide) (by unfold zzIn; rw [zm_84]; rfl) (by rw [zm_84]; exact Nat.le_of_ble_eq_true rfl) (Nat.le_of_ble_eq_true rfl) (G_X6_passenger (by omega) (J.2 2000 (l3 + (1 : Int32)).toNatClampNeg) (J.2 2000 (l3 + (2 : Int32)).toNatClampNeg) J q16 hq16) rfl ?_
      show zzEv _ _ _ _ [.int q16.1] _ _
      refine ev_aload_n zo_213_217 rfl rfl rfl rfl ?_
      refine ev_aload_n zo_213_218 rfl rfl rfl rfl ?_
      refine ev_iload_n zo_213_219 rfl rfl rfl ?_
      refine ev_iconst (x := 1) zo_213_220 (by decide) rfl ?_
      refine ev_iadd zo_213_221 rfl ?_
      obtain ⟨c17, h⟩ := zz_chk h
      refine ev_sald zo_213_222 c17 rfl ?_
      refine ev_aload_n zo_213_223 rfl rfl rfl rfl ?_
      refine ev_iload_n zo_213_224 rfl rfl rfl ?_
      refine ev_iconst (x := 2) zo_213_225 (by decide) rfl ?_
      refine ev_iadd zo_213_226 rfl ?_
      obtain ⟨c18, h⟩ := zz_chk h
      refine ev_sald zo_213_227 c18 rfl ?_
      obtain ⟨q19, hq19, h⟩ := zz_bd h
      refine ev_cV (as := [.int (q16.2.2 2000 (l3 + (2 : Int32)).toNatClampNeg), .int (q16.2.2 2000 (l3 + (1 : Int32)).toNatClampNeg)]) (lsn := [.ref 46, .int (q16.2.2 2000 (l3 + (1 : Int32)).toNatClampNeg), .int (q16.2.2 2000 (l3 + (2 : Int32)).toNatClampNeg)]) (by omega) zo_213_228 zl_213_22 (by rw [zm_145]; rfl) (by rw [zm_145]; exact rfl) (by rw [zm_145]; decide) (by unfold zzIn; rw [zm_145]; rfl) (by rw [zm_145]; exact Nat.le_of_ble_eq_true rfl) (Nat.le_of_ble_eq_true rfl) (G_X7_passenger (by omega) (q16.2.2 2000 (l3 + (1 : Int32)).toNatClampNeg) (q16.2.2 2000 (l3 + (2 : Int32)).toNatClampNeg) q16.2 q19 hq19) rfl ?_
      show zzEv _ _ _ _ [.int q19.1, .int q16.1] _ _
      by_cases c20 : q16.1 = q19.1
      · rw [if_pos c20] at h
        refine ev_cmp_t (t := 1025) zo_213_231 rfl (zcm_eq c20) ?_
        refine ev_iinc (v := 6) zo_213_1025 rfl (by decide) (zz_set rfl (by decide) (Nat.le_of_ble_eq_true rfl)) rfl ?_
        show zzEv _ _ _ [.ref 2000, .ref 0, .ref 46, .int (l3 + 6)] _ _ _
        refine ev_goto (t := 18) zo_213_1028 rfl ?_
        exact ih (l3 + 6) q19.2 r h
      rw [if_neg c20] at h
      refine ev_cmp_f (t := 1025) zo_213_231 rfl (zcm_neq c20) rfl ?_
      refine ev_iconst (x := 0) zo_213_234 (by decide) rfl ?_
      obtain rfl := Option.some.inj h
      exact ev_retZ zo_213_235 zr_213 (Or.inl rfl)
    rw [if_neg s13] at h
    by_cases s21 : ((J.2 2000 l3.toNatClampNeg) &&& (31 : Int32)) = 2
    · rw [if_pos s21] at h
      refine ev_tableIn (t := 236) zo_213_33 s21 rfl ?_
      refine ev_aload_n zo_213_236 rfl rfl rfl rfl ?_
      refine ev_aload_n zo_213_237 rfl rfl rfl rfl ?_
      refine ev_iload_n zo_213_238 rfl rfl rfl ?_
      refine ev_iconst (x := 1) zo_213_239 (by decide) rfl ?_
      refine ev_iadd zo_213_240 rfl ?_
      obtain ⟨c22, h⟩ := zz_chk h
      refine ev_sald zo_213_241 c22 rfl ?_
      refine ev_aload_n zo_213_242 rfl rfl rfl rfl ?_
      refine ev_iload_n zo_213_243 rfl rfl rfl ?_
      refine ev_iconst (x := 2) zo_213_244 (by decide) rfl ?_
      refine ev_iadd zo_213_245 rfl ?_
      obtain ⟨c23, h⟩ := zz_chk h
      refine ev_sald zo_213_246 c23 rfl ?_
      obtain ⟨q24, hq24, h⟩ := zz_bd h
      refine ev_cV (as := [.int (J.2 2000 (l3 + (2 : Int32)).toNatClampNeg), .int (J.2 2000 (l3 + (1 : Int32)).toNatClampNeg)]) (lsn := [.ref 0, .int (J.2 2000 (l3 + (1 : Int32)).toNatClampNeg), .int (J.2 2000 (l3 + (2 : Int32)).toNatClampNeg), zzU, zzU]) (by omega) zo_213_247 zl_213_23 (by rw [zm_85]; rfl) (by rw [zm_85]; exact rfl) (by rw [zm_85]; decide) (by unfold zzIn; rw [zm_85]; rfl) (by rw [zm_85]; exact Nat.le_of_ble_eq_true rfl) (Nat.le_of_ble_eq_true rfl) (G_X6_sit (by omega) (J.2 2000 (l3 + (1 : Int32)).toNatClampNeg) (J.2 2000 (l3 + (2 : Int32)).toNatClampNeg) J q24 hq24) rfl ?_
      show zzEv _ _ _ _ [.int q24.1] _ _
      refine ev_aload_n zo_213_250 rfl rfl rfl rfl ?_
      refine ev_aload_n zo_213_251 rfl rfl rfl rfl ?_
      refine ev_iload_n zo_213_252 rfl rfl rfl ?_
      refine ev_iconst (x := 1) zo_213_253 (by decide) rfl ?_
      refine ev_iadd zo_213_254 rfl ?_
      obtain ⟨c25, h⟩ := zz_chk h
      refine ev_sald zo_213_255 c25 rfl ?_
      refine ev_aload_n zo_213_256 rfl rfl rfl rfl ?_
      refine ev_iload_n zo_213_257 rfl rfl rfl ?_
      refine ev_iconst (x := 2) zo_213_258 (by decide) rfl ?_
      refine ev_iadd zo_213_259 rfl ?_
      obtain ⟨c26, h⟩ := zz_chk h
      refine ev_sald zo_213_260 c26 rfl ?_
      obtain ⟨q27, hq27, h⟩ := zz_bd h
      refine ev_cV (as := [.int (q24.2.2 2000 (l3 + (2 : Int32)).toNatClampNeg), .int (q24.2.2 2000 (l3 + (1 : Int32)).toNatClampNeg)]) (lsn := [.ref 46, .int (q24.2.2 2000 (l3 + (1 : Int32)).toNatClampNeg), .int (q24.2.2 2000 (l3 + (2 : Int32)).toNatClampNeg), zzU]) (by omega) zo_213_261 zl_213_26 (by rw [zm_147]; rfl) (by rw [zm_147]; exact rfl) (by rw [zm_147]; decide) (by unfold zzIn; rw [zm_147]; rfl) (by rw [zm_147]; exact Nat.le_of_ble_eq_true rfl) (Nat.le_of_ble_eq_true rfl) (G_X7_sit (by omega) (q24.2.2 2000 (l3 + (1 : Int32)).toNatClampNeg) (q24.2.2 2000 (l3 + (2 : Int32)).toNatClampNeg) q24.2 q27 hq27) rfl ?_
      show zzEv _ _ _ _ [.int q27.1, .int q24.1] _ _
      by_cases c28 : q24.1 = q27.1
      · rw [if_pos c28] at h
        refine ev_cmp_t (t := 1025) zo_213_264 rfl (zcm_eq c28) ?_
        refine ev_iinc (v := 6) zo_213_1025 rfl (by decide) (zz_set rfl (by decide) (Nat.le_of_ble_eq_true rfl)) rfl ?_
        show zzEv _ _ _ [.ref 2000, .ref 0, .ref 46, .int (l3 + 6)] _ _ _
        refine ev_goto (t := 18) zo_213_1028 rfl ?_
        exact ih (l3 + 6) q27.2 r h
      rw [if_neg c28] at h
      refine ev_cmp_f (t := 1025) zo_213_264 rfl (zcm_neq c28) rfl ?_
      refine ev_iconst (x := 0) zo_213_267 (by decide) rfl ?_
      obtain rfl := Option.some.inj h
      exact ev_retZ zo_213_268 zr_213 (Or.inl rfl)
    rw [if_neg s21] at h
    by_cases s29 : ((J.2 2000 l3.toNatClampNeg) &&& (31 : Int32)) = 3
    · rw [if_pos s29] at h
      refine ev_tableIn (t := 269) zo_213_33 s29 rfl ?_
      refine ev_aload_n zo_213_269 rfl rfl rfl rfl ?_
      refine ev_aload_n zo_213_270 rfl rfl rfl rfl ?_
      refine ev_iload_n zo_213_271 rfl rfl rfl ?_
      refine ev_iconst (x := 1) zo_213_272 (by decide) rfl ?_
      refine ev_iadd zo_213_273 rfl ?_
      obtain ⟨c30, h⟩ := zz_chk h
      refine ev_sald zo_213_274 c30 rfl ?_
      refine ev_aload_n zo_213_275 rfl rfl rfl rfl ?_
      refine ev_iload_n zo_213_276 rfl rfl rfl ?_
      refine ev_iconst (x := 2) zo_213_277 (by decide) rfl ?_
      refine ev_iadd zo_213_278 rfl ?_
      obtain ⟨c31, h⟩ := zz_chk h
      refine ev_sald zo_213_279 c31 rfl ?_
      obtain ⟨q32, hq32, h⟩ := zz_bd h
      refine ev_cV (as := [.int (J.2 2000 (l3 + (2 : Int32)).toNatClampNeg), .int (J.2 2000 (l3 + (1 : Int32)).toNatClampNeg)]) (lsn := [.ref 0, .int (J.2 2000 (l3 + (1 : Int32)).toNatClampNeg), .int (J.2 2000 (l3 + (2 : Int32)).toNatClampNeg)]) (by omega) zo_213_280 zl_213_27 (by rw [zm_86]; rfl) (by rw [zm_86]; exact rfl) (by rw [zm_86]; decide) (by unfold zzIn; rw [zm_86]; rfl) (by rw [zm_86]; exact Nat.le_of_ble_eq_true rfl) (Nat.le_of_ble_eq_true rfl) (G_X6_told (by omega) (J.2 2000 (l3 + (1 : Int32)).toNatClampNeg) (J.2 2000 (l3 + (2 : Int32)).toNatClampNeg) J q32 hq32) rfl ?_
      show zzEv _ _ _ _ [.int q32.1] _ _
      refine ev_aload_n zo_213_283 rfl rfl rfl rfl ?_
      refine ev_aload_n zo_213_284 rfl rfl rfl rfl ?_
      refine ev_iload_n zo_213_285 rfl rfl rfl ?_
      refine ev_iconst (x := 1) zo_213_286 (by decide) rfl ?_
      refine ev_iadd zo_213_287 rfl ?_
      obtain ⟨c33, h⟩ := zz_chk h
      refine ev_sald zo_213_288 c33 rfl ?_
      refine ev_aload_n zo_213_289 rfl rfl rfl rfl ?_
      refine ev_iload_n zo_213_290 rfl rfl rfl ?_
      refine ev_iconst (x := 2) zo_213_291 (by decide) rfl ?_
      refine ev_iadd zo_213_292 rfl ?_
      obtain ⟨c34, h⟩ := zz_chk h
      refine ev_sald zo_213_293 c34 rfl ?_
      obtain ⟨q35, hq35, h⟩ := zz_bd h
      refine ev_cV (as := [.int (q32.2.2 2000 (l3 + (2 : Int32)).toNatClampNeg), .int (q32.2.2 2000 (l3 + (1 : Int32)).toNatClampNeg)]) (lsn := [.ref 46, .int (q32.2.2 2000 (l3 + (1 : Int32)).toNatClampNeg), .int (q32.2.2 2000 (l3 + (2 : Int32)).toNatClampNeg)]) (by omega) zo_213_294 zl_213_30 (by rw [zm_148]; rfl) (by rw [zm_148]; exact rfl) (by rw [zm_148]; decide) (by unfold zzIn; rw [zm_148]; rfl) (by rw [zm_148]; exact Nat.le_of_ble_eq_true rfl) (Nat.le_of_ble_eq_true rfl) (G_X7_told (by omega) (q32.2.2 2000 (l3 + (1 : Int32)).toNatClampNeg) (q32.2.2 2000 (l3 + (2 : Int32)).toNatClampNeg) q32.2 q35 hq35) rfl ?_
      show zzEv _ _ _ _ [.int q35.1, .int q32.1] _ _
      by_cases c36 : q32.1 = q35.1
      · rw [if_pos c36] at h
        refine ev_cmp_t (t := 1025) zo_213_297 rfl (zcm_eq c36) ?_
        refine ev_iinc (v := 6) zo_213_1025 rfl (by decide) (zz_set rfl (by decide) (Nat.le_of_ble_eq_true rfl)) rfl ?_
        show zzEv _ _ _ [.ref 2000, .ref 0, .ref 46, .int (l3 + 6)] _ _ _
        refine ev_goto (t := 18) zo_213_1028 rfl ?_
        exact ih (l3 + 6) q35.2 r h
      rw [if_neg c36] at h
      refine ev_cmp_f (t := 1025) zo_213_297 rfl (zcm_neq c36) rfl ?_
      refine ev_iconst (x := 0) zo_213_300 (by decide) rfl ?_
      obtain rfl := Option.some.inj h
      exact ev_retZ zo_213_301 zr_213 (Or.inl rfl)
    rw [if_neg s29] at h
    by_cases s37 : ((J.2 2000 l3.toNatClampNeg) &&& (31 : Int32)) = 4
    · rw [if_pos s37] at h
      refine ev_tableIn (t := 302) zo_213_33 s37 rfl ?_
      refine ev_aload_n zo_213_302 rfl rfl rfl rfl ?_
      refine ev_aload_n zo_213_303 rfl rfl rfl rfl ?_
      refine ev_iload_n zo_213_304 rfl rfl rfl ?_
      refine ev_iconst (x := 1) zo_213_305 (by decide) rfl ?_
      refine ev_iadd zo_213_306 rfl ?_
      obtain ⟨c38, h⟩ := zz_chk h
      refine ev_sald zo_213_307 c38 rfl ?_
      obtain ⟨q39, hq39, h⟩ := zz_bd h
      refine ev_cV (as := [.int (J.2 2000 (l3 + (1 : Int32)).toNatClampNeg)]) (lsn := [.ref 0, .int (J.2 2000 (l3 + (1 : Int32)).toNatClampNeg)]) (by omega) zo_213_308 zl_213_31 (by rw [zm_87]; rfl) (by rw [zm_87]; exact rfl) (by rw [zm_87]; decide) (by unfold zzIn; rw [zm_87]; rfl) (by rw [zm_87]; exact Nat.le_of_ble_eq_true rfl) (Nat.le_of_ble_eq_true rfl) (G_X6_who (by omega) (J.2 2000 (l3 + (1 : Int32)).toNatClampNeg) J q39 hq39) rfl ?_
      show zzEv _ _ _ _ [.int q39.1] _ _
      refine ev_aload_n zo_213_311 rfl rfl rfl rfl ?_
      refine ev_aload_n zo_213_312 rfl rfl rfl rfl ?_
      refine ev_iload_n zo_213_313 rfl rfl rfl ?_
      refine ev_iconst (x := 1) zo_213_314 (by decide) rfl ?_
      refine ev_iadd zo_213_315 rfl ?_
      obtain ⟨c40, h⟩ := zz_chk h
      refine ev_sald zo_213_316 c40 rfl ?_
      obtain ⟨q41, hq41, h⟩ := zz_bd h
      refine ev_cV (as := [.int (q39.2.2 2000 (l3 + (1 : Int32)).toNatClampNeg)]) (lsn := [.ref 46, .int (q39.2.2 2000 (l3 + (1 : Int32)).toNatClampNeg)]) (by omega) zo_213_317 zl_213_35 (by rw [zm_149]; rfl) (by rw [zm_149]; exact rfl) (by rw [zm_149]; decide) (by unfold zzIn; rw [zm_149]; rfl) (by rw [zm_149]; exact Nat.le_of_ble_eq_true rfl) (Nat.le_of_ble_eq_true rfl) (G_X7_who (by omega) (q39.2.2 2000 (l3 + (1 : Int32)).toNatClampNeg) q39.2 q41 hq41) rfl ?_
      show zzEv _ _ _ _ [.int q41.1, .int q39.1] _ _
      by_cases c42 : q39.1 = q41.1
      · rw [if_pos c42] at h
        refine ev_cmp_t (t := 1025) zo_213_320 rfl (zcm_eq c42) ?_
        refine ev_iinc (v := 6) zo_213_1025 rfl (by decide) (zz_set rfl (by decide) (Nat.le_of_ble_eq_true rfl)) rfl ?_
        show zzEv _ _ _ [.ref 2000, .ref 0, .ref 46, .int (l3 + 6)] _ _ _
        refine ev_goto (t := 18) zo_213_1028 rfl ?_
        exact ih (l3 + 6) q41.2 r h
      rw [if_neg c42] at h
      refine ev_cmp_f (t := 1025) zo_213_320 rfl (zcm_neq c42) rfl ?_
      refine ev_iconst (x := 0) zo_213_323 (by decide) rfl ?_
      obtain rfl := Option.some.inj h
      exact ev_retZ zo_213_324 zr_213 (Or.inl rfl)
    rw [if_neg s37] at h
    by_cases s43 : ((J.2 2000 l3.toNatClampNeg) &&& (31 : Int32)) = 5
    · rw [if_pos s43] at h
      refine ev_tableIn (t := 325) zo_213_33 s43 rfl ?_
      refine ev_aload_n zo_213_325 rfl rfl rfl rfl ?_
      refine ev_aload_n zo_213_326 rfl rfl rfl rfl ?_
      refine ev_iload_n zo_213_327 rfl rfl rfl ?_
      refine ev_iconst (x := 1) zo_213_328 (by decide) rfl ?_
      refine ev_iadd zo_213_329 rfl ?_
      obtain ⟨c44, h⟩ := zz_chk h
      refine ev_sald zo_213_330 c44 rfl ?_
      obtain ⟨q45, hq45, h⟩ := zz_bd h
      refine ev_cV (as := [.int (J.2 2000 (l3 + (1 : Int32)).toNatClampNeg)]) (lsn := [.ref 0, .int (J.2 2000 (l3 + (1 : Int32)).toNatClampNeg)]) (by omega) zo_213_331 zl_213_36 (by rw [zm_88]; rfl) (by rw [zm_88]; exact rfl) (by rw [zm_88]; decide) (by unfold zzIn; rw [zm_88]; rfl) (by rw [zm_88]; exact Nat.le_of_ble_eq_true rfl) (Nat.le_of_ble_eq_true rfl) (G_X6_feed (by omega) (J.2 2000 (l3 + (1 : Int32)).toNatClampNeg) J q45 hq45) rfl ?_
      show zzEv _ _ _ _ [.int q45.1] _ _
      refine ev_aload_n zo_213_334 rfl rfl rfl rfl ?_
      refine ev_aload_n zo_213_335 rfl rfl rfl rfl ?_
      refine ev_iload_n zo_213_336 rfl rfl rfl ?_
      refine ev_iconst (x := 1) zo_213_337 (by decide) rfl ?_
      refine ev_iadd zo_213_338 rfl ?_
      obtain ⟨c46, h⟩ := zz_chk h
      refine ev_sald zo_213_339 c46 rfl ?_
      obtain ⟨q47, hq47, h⟩ := zz_bd h
      refine ev_cV (as := [.int (q45.2.2 2000 (l3 + (1 : Int32)).toNatClampNeg)]) (lsn := [.ref 46, .int (q45.2.2 2000 (l3 + (1 : Int32)).toNatClampNeg)]) (by omega) zo_213_340 zl_213_39 (by rw [zm_150]; rfl) (by rw [zm_150]; exact rfl) (by rw [zm_150]; decide) (by unfold zzIn; rw [zm_150]; rfl) (by rw [zm_150]; exact Nat.le_of_ble_eq_true rfl) (Nat.le_of_ble_eq_true rfl) (G_X7_feed (by omega) (q45.2.2 2000 (l3 + (1 : Int32)).toNatClampNeg) q45.2 q47 hq47) rfl ?_
      show zzEv _ _ _ _ [.int q47.1, .int q45.1] _ _
      by_cases c48 : q45.1 = q47.1
      · rw [if_pos c48] at h
        refine ev_cmp_t (t := 1025) zo_213_343 rfl (zcm_eq c48) ?_
        refine ev_iinc (v := 6) zo_213_1025 rfl (by decide) (zz_set rfl (by decide) (Nat.le_of_ble_eq_true rfl)) rfl ?_
        show zzEv _ _ _ [.ref 2000, .ref 0, .ref 46, .int (l3 + 6)] _ _ _
        refine ev_goto (t := 18) zo_213_1028 rfl ?_
        exact ih (l3 + 6) q47.2 r h
      rw [if_neg c48] at h
      refine ev_cmp_f (t := 1025) zo_213_343 rfl (zcm_neq c48) rfl ?_
      refine ev_iconst (x := 0) zo_213_346 (by decide) rfl ?_
      obtain rfl := Option.some.inj h
      exact ev_retZ zo_213_347 zr_213 (Or.inl rfl)
    rw [if_neg s43] at h
    by_cases s49 : ((J.2 2000 l3.toNatClampNeg) &&& (31 : Int32)) = 6
    · rw [if_pos s49] at h
      refine ev_tableIn (t := 348) zo_213_33 s49 rfl ?_
      refine ev_aload_n zo_213_348 rfl rfl rfl rfl ?_
      obtain ⟨q50, hq50, h⟩ := zz_bd h
      refine ev_cV (as := []) (lsn := [.ref 0, zzU]) (by omega) zo_213_349 zl_213_40 (by rw [zm_89]; rfl) (by rw [zm_89]; exact rfl) (by rw [zm_89]; decide) (by unfold zzIn; rw [zm_89]; rfl) (by rw [zm_89]; exact Nat.le_of_ble_eq_true rfl) (Nat.le_of_ble_eq_true rfl) (G_X6_text (by omega) J q50 hq50) rfl ?_
      show zzEv _ _ _ _ [.int q50.1] _ _
      refine ev_aload_n zo_213_352 rfl rfl rfl rfl ?_
      obtain ⟨q51, hq51, h⟩ := zz_bd h
      refine ev_cV (as := []) (lsn := [.ref 46, zzU]) (by omega) zo_213_353 zl_213_44 (by rw [zm_167]; rfl) (by rw [zm_167]; exact rfl) (by rw [zm_167]; decide) (by unfold zzIn; rw [zm_167]; rfl) (by rw [zm_167]; exact Nat.le_of_ble_eq_true rfl) (Nat.le_of_ble_eq_true rfl) (G_X7_text (by omega) q50.2 q51 hq51) rfl ?_
      show zzEv _ _ _ _ [.int q51.1, .int q50.1] _ _
      by_cases c52 : q50.1 = q51.1
      · rw [if_pos c52] at h
        refine ev_cmp_t (t := 1025) zo_213_356 rfl (zcm_eq c52) ?_
        refine ev_iinc (v := 6) zo_213_1025 rfl (by decide) (zz_set rfl (by decide) (Nat.le_of_ble_eq_true rfl)) rfl ?_
        show zzEv _ _ _ [.ref 2000, .ref 0, .ref 46, .int (l3 + 6)] _ _ _
        refine ev_goto (t := 18) zo_213_1028 rfl ?_
        exact ih (l3 + 6) q51.2 r h
      rw [if_neg c52] at h
      refine ev_cmp_f (t := 1025) zo_213_356 rfl (zcm_neq c52) rfl ?_
      refine ev_iconst (x := 0) zo_213_359 (by decide) rfl ?_
      obtain rfl := Option.some.inj h
      exact ev_retZ zo_213_360 zr_213 (Or.inl rfl)
    rw [if_neg s49] at h
    by_cases s53 : ((J.2 2000 l3.toNatClampNeg) &&& (31 : Int32)) = 7
    · rw [if_pos s53] at h
      refine ev_tableIn (t := 361) zo_213_33 s53 rfl ?_
      refine ev_aload_n zo_213_361 rfl rfl rfl rfl ?_
      refine ev_aload_n zo_213_362 rfl rfl rfl rfl ?_
      refine ev_iload_n zo_213_363 rfl rfl rfl ?_
      refine ev_iconst (x := 1) zo_213_364 (by decide) rfl ?_
      refine ev_iadd zo_213_365 rfl ?_
      obtain ⟨c54, h⟩ := zz_chk h
      refine ev_sald zo_213_366 c54 rfl ?_
      obtain ⟨q55, hq55, h⟩ := zz_bd h
      refine ev_cV (as := [.int (J.2 2000 (l3 + (1 : Int32)).toNatClampNeg)]) (lsn := [.ref 0, .int (J.2 2000 (l3 + (1 : Int32)).toNatClampNeg), zzU]) (by omega) zo_213_367 zl_213_45 (by rw [zm_90]; rfl) (by rw [zm_90]; exact rfl) (by rw [zm_90]; decide) (by unfold zzIn; rw [zm_90]; rfl) (by rw [zm_90]; exact Nat.le_of_ble_eq_true rfl) (Nat.le_of_ble_eq_true rfl) (G_X6_force (by omega) (J.2 2000 (l3 + (1 : Int32)).toNatClampNeg) J q55 hq55) rfl ?_
      show zzEv _ _ _ _ [.int q55.1] _ _
      refine ev_aload_n zo_213_370 rfl rfl rfl rfl ?_
      refine ev_aload_n zo_213_371 rfl rfl rfl rfl ?_
      refine ev_iload_n zo_213_372 rfl rfl rfl ?_
      refine ev_iconst (x := 1) zo_213_373 (by decide) rfl ?_
      refine ev_iadd zo_213_374 rfl ?_
      obtain ⟨c56, h⟩ := zz_chk h
      refine ev_sald zo_213_375 c56 rfl ?_
      obtain ⟨q57, hq57, h⟩ := zz_bd h
      refine ev_cV (as := [.int (q55.2.2 2000 (l3 + (1 : Int32)).toNatClampNeg)]) (lsn := [.ref 46, .int (q55.2.2 2000 (l3 + (1 : Int32)).toNatClampNeg), zzU]) (by omega) zo_213_376 zl_213_48 (by rw [zm_168]; rfl) (by rw [zm_168]; exact rfl) (by rw [zm_168]; decide) (by unfold zzIn; rw [zm_168]; rfl) (by rw [zm_168]; exact Nat.le_of_ble_eq_true rfl) (Nat.le_of_ble_eq_true rfl) (G_X7_force (by omega) (q55.2.2 2000 (l3 + (1 : Int32)).toNatClampNeg) q55.2 q57 hq57) rfl ?_
      show zzEv _ _ _ _ [.int q57.1, .int q55.1] _ _
      by_cases c58 : q55.1 = q57.1
      · rw [if_pos c58] at h
        refine ev_cmp_t (t := 1025) zo_213_379 rfl (zcm_eq c58) ?_
        refine ev_iinc (v := 6) zo_213_1025 rfl (by decide) (zz_set rfl (by decide) (Nat.le_of_ble_eq_true rfl)) rfl ?_
        show zzEv _ _ _ [.ref 2000, .ref 0, .ref 46, .int (l3 + 6)] _ _ _
        refine ev_goto (t := 18) zo_213_1028 rfl ?_
        exact ih (l3 + 6) q57.2 r h
      rw [if_neg c58] at h
      refine ev_cmp_f (t := 1025) zo_213_379 rfl (zcm_neq c58) rfl ?_
      refine ev_iconst (x := 0) zo_213_382 (by decide) rfl ?_
      obtain rfl := Option.some.inj h
      exact ev_retZ zo_213_383 zr_213 (Or.inl rfl)
    rw [if_neg s53] at h
    by_cases s59 : ((J.2 2000 l3.toNatClampNeg) &&& (31 : Int32)) = 8
    · rw [if_pos s59] at h
      refine ev_tableIn (t := 384) zo_213_33 s59 rfl ?_
      refine ev_aload_n zo_213_384 rfl rfl rfl rfl ?_
      refine ev_aload_n zo_213_385 rfl rfl rfl rfl ?_
      refine ev_iload_n zo_213_386 rfl rfl rfl ?_
      refine ev_iconst (x := 1) zo_213_387 (by decide) rfl ?_
      refine ev_iadd zo_213_388 rfl ?_
      obtain ⟨c60, h⟩ := zz_chk h
      refine ev_sald zo_213_389 c60 rfl ?_
      obtain ⟨q61, hq61, h⟩ := zz_bd h
      refine ev_cV (as := [.int (J.2 2000 (l3 + (1 : Int32)).toNatClampNeg)]) (lsn := [.ref 0, .int (J.2 2000 (l3 + (1 : Int32)).toNatClampNeg)]) (by omega) zo_213_390 zl_213_49 (by rw [zm_91]; rfl) (by rw [zm_91]; exact rfl) (by rw [zm_91]; decide) (by unfold zzIn; rw [zm_91]; rfl) (by rw [zm_91]; exact Nat.le_of_ble_eq_true rfl) (Nat.le_of_ble_eq_true rfl) (G_X6_all (by omega) (J.2 2000 (l3 + (1 : Int32)).toNatClampNeg) J q61 hq61) rfl ?_
      show zzEv _ _ _ _ [.int q61.1] _ _
      refine ev_aload_n zo_213_393 rfl rfl rfl rfl ?_
      refine ev_aload_n zo_213_394 rfl rfl rfl rfl ?_
      refine ev_iload_n zo_213_395 rfl rfl rfl ?_
      refine ev_iconst (x := 1) zo_213_396 (by decide) rfl ?_
      refine ev_iadd zo_213_397 rfl ?_
      obtain ⟨c62, h⟩ := zz_chk h
      refine ev_sald zo_213_398 c62 rfl ?_
      obtain ⟨q63, hq63, h⟩ := zz_bd h
      refine ev_cV (as := [.int (q61.2.2 2000 (l3 + (1 : Int32)).toNatClampNeg)]) (lsn := [.ref 46, .int (q61.2.2 2000 (l3 + (1 : Int32)).toNatClampNeg), zzU, zzU]) (by omega) zo_213_399 zl_213_52 (by rw [zm_180]; rfl) (by rw [zm_180]; exact rfl) (by rw [zm_180]; decide) (by unfold zzIn; rw [zm_180]; rfl) (by rw [zm_180]; exact Nat.le_of_ble_eq_true rfl) (Nat.le_of_ble_eq_true rfl) (G_X7_all (by omega) (q61.2.2 2000 (l3 + (1 : Int32)).toNatClampNeg) q61.2 q63 hq63) rfl ?_
      show zzEv _ _ _ _ [.int q63.1, .int q61.1] _ _
      by_cases c64 : q61.1 = q63.1
      · rw [if_pos c64] at h
        refine ev_cmp_t (t := 1025) zo_213_402 rfl (zcm_eq c64) ?_
        refine ev_iinc (v := 6) zo_213_1025 rfl (by decide) (zz_set rfl (by decide) (Nat.le_of_ble_eq_true rfl)) rfl ?_
        show zzEv _ _ _ [.ref 2000, .ref 0, .ref 46, .int (l3 + 6)] _ _ _
        refine ev_goto (t := 18) zo_213_1028 rfl ?_
        exact ih (l3 + 6) q63.2 r h
      rw [if_neg c64] at h
      refine ev_cmp_f (t := 1025) zo_213_402 rfl (zcm_neq c64) rfl ?_
      refine ev_iconst (x := 0) zo_213_405 (by decide) rfl ?_
      obtain rfl := Option.some.inj h
      exact ev_retZ zo_213_406 zr_213 (Or.inl rfl)
    rw [if_neg s59] at h
    by_cases s65 : ((J.2 2000 l3.toNatClampNeg) &&& (31 : Int32)) = 9
    · rw [if_pos s65] at h
      refine ev_tableIn (t := 407) zo_213_33 s65 rfl ?_
      refine ev_aload_n zo_213_407 rfl rfl rfl rfl ?_
      refine ev_aload_n zo_213_408 rfl rfl rfl rfl ?_
      refine ev_iload_n zo_213_409 rfl rfl rfl ?_
      refine ev_iconst (x := 1) zo_213_410 (by decide) rfl ?_
      refine ev_iadd zo_213_411 rfl ?_
      obtain ⟨c66, h⟩ := zz_chk h
      refine ev_sald zo_213_412 c66 rfl ?_
      refine ev_aload_n zo_213_413 rfl rfl rfl rfl ?_
      refine ev_iload_n zo_213_414 rfl rfl rfl ?_
      refine ev_iconst (x := 2) zo_213_415 (by decide) rfl ?_
      refine ev_iadd zo_213_416 rfl ?_
      obtain ⟨c67, h⟩ := zz_chk h
      refine ev_sald zo_213_417 c67 rfl ?_
      obtain ⟨q68, hq68, h⟩ := zz_bd h
      refine ev_cV (as := [.int (J.2 2000 (l3 + (2 : Int32)).toNatClampNeg), .int (J.2 2000 (l3 + (1 : Int32)).toNatClampNeg)]) (lsn := [.ref 0, .int (J.2 2000 (l3 + (1 : Int32)).toNatClampNeg), .int (J.2 2000 (l3 + (2 : Int32)).toNatClampNeg), zzU, zzU, zzU]) (by omega) zo_213_418 zl_213_53 (by rw [zm_92]; rfl) (by rw [zm_92]; exact rfl) (by rw [zm_92]; decide) (by unfold zzIn; rw [zm_92]; rfl) (by rw [zm_92]; exact Nat.le_of_ble_eq_true rfl) (Nat.le_of_ble_eq_true rfl) (G_X6_ride (by omega) (J.2 2000 (l3 + (1 : Int32)).toNatClampNeg) (J.2 2000 (l3 + (2 : Int32)).toNatClampNeg) J q68 hq68) rfl ?_
      show zzEv _ _ _ _ [.int q68.1] _ _
      refine ev_aload_n zo_213_421 rfl rfl rfl rfl ?_
      refine ev_aload_n zo_213_422 rfl rfl rfl rfl ?_
      refine ev_iload_n zo_213_423 rfl rfl rfl ?_
      refine ev_iconst (x := 1) zo_213_424 (by decide) rfl ?_
      refine ev_iadd zo_213_425 rfl ?_
      obtain ⟨c69, h⟩ := zz_chk h
      refine ev_sald zo_213_426 c69 rfl ?_
      refine ev_aload_n zo_213_427 rfl rfl rfl rfl ?_
      refine ev_iload_n zo_213_428 rfl rfl rfl ?_
      refine ev_iconst (x := 2) zo_213_429 (by decide) rfl ?_
      refine ev_iadd zo_213_430 rfl ?_
      obtain ⟨c70, h⟩ := zz_chk h
      refine ev_sald zo_213_431 c70 rfl ?_
      obtain ⟨q71, hq71, h⟩ := zz_bd h
      refine ev_cV (as := [.int (q68.2.2 2000 (l3 + (2 : Int32)).toNatClampNeg), .int (q68.2.2 2000 (l3 + (1 : Int32)).toNatClampNeg)]) (lsn := [.ref 46, .int (q68.2.2 2000 (l3 + (1 : Int32)).toNatClampNeg), .int (q68.2.2 2000 (l3 + (2 : Int32)).toNatClampNeg), zzU]) (by omega) zo_213_432 zl_213_56 (by rw [zm_182]; rfl) (by rw [zm_182]; exact rfl) (by rw [zm_182]; decide) (by unfold zzIn; rw [zm_182]; rfl) (by rw [zm_182]; exact Nat.le_of_ble_eq_true rfl) (Nat.le_of_ble_eq_true rfl) (G_X7_ride (by omega) (q68.2.2 2000 (l3 + (1 : Int32)).toNatClampNeg) (q68.2.2 2000 (l3 + (2 : Int32)).toNatClampNeg) q68.2 q71 hq71) rfl ?_
      show zzEv _ _ _ _ [.int q71.1, .int q68.1] _ _
      by_cases c72 : q68.1 = q71.1
      · rw [if_pos c72] at h
        refine ev_cmp_t (t := 1025) zo_213_435 rfl (zcm_eq c72) ?_
        refine ev_iinc (v := 6) zo_213_1025 rfl (by decide) (zz_set rfl (by decide) (Nat.le_of_ble_eq_true rfl)) rfl ?_
        show zzEv _ _ _ [.ref 2000, .ref 0, .ref 46, .int (l3 + 6)] _ _ _
        refine ev_goto (t := 18) zo_213_1028 rfl ?_
        exact ih (l3 + 6) q71.2 r h
      rw [if_neg c72] at h
      refine ev_cmp_f (t := 1025) zo_213_435 rfl (zcm_neq c72) rfl ?_
      refine ev_iconst (x := 0) zo_213_438 (by decide) rfl ?_
      obtain rfl := Option.some.inj h
      exact ev_retZ zo_213_439 zr_213 (Or.inl rfl)
    rw [if_neg s65] at h
    by_cases s73 : ((J.2 2000 l3.toNatClampNeg) &&& (31 : Int32)) = 10
    · rw [if_pos s73] at h
      refine ev_tableIn (t := 440) zo_213_33 s73 rfl ?_
      refine ev_aload_n zo_213_440 rfl rfl rfl rfl ?_
      refine ev_aload_n zo_213_441 rfl rfl rfl rfl ?_
      refine ev_iload_n zo_213_442 rfl rfl rfl ?_
      refine ev_iconst (x := 1) zo_213_443 (by decide) rfl ?_
      refine ev_iadd zo_213_444 rfl ?_
      obtain ⟨c74, h⟩ := zz_chk h
      refine ev_sald zo_213_445 c74 rfl ?_
      refine ev_aload_n zo_213_446 rfl rfl rfl rfl ?_
      refine ev_iload_n zo_213_447 rfl rfl rfl ?_
      refine ev_iconst (x := 2) zo_213_448 (by decide) rfl ?_
      refine ev_iadd zo_213_449 rfl ?_
      obtain ⟨c75, h⟩ := zz_chk h
      refine ev_sald zo_213_450 c75 rfl ?_
      obtain ⟨q76, hq76, h⟩ := zz_bd h
      refine ev_cV (as := [.int (J.2 2000 (l3 + (2 : Int32)).toNatClampNeg), .int (J.2 2000 (l3 + (1 : Int32)).toNatClampNeg)]) (lsn := [.ref 0, .int (J.2 2000 (l3 + (1 : Int32)).toNatClampNeg), .int (J.2 2000 (l3 + (2 : Int32)).toNatClampNeg), zzU, zzU, zzU, zzU]) (by omega) zo_213_451 zl_213_57 (by rw [zm_94]; rfl) (by rw [zm_94]; exact rfl) (by rw [zm_94]; decide) (by unfold zzIn; rw [zm_94]; rfl) (by rw [zm_94]; exact Nat.le_of_ble_eq_true rfl) (Nat.le_of_ble_eq_true rfl) (G_X6_best (by omega) (J.2 2000 (l3 + (1 : Int32)).toNatClampNeg) (J.2 2000 (l3 + (2 : Int32)).toNatClampNeg) J q76 hq76) rfl ?_
      show zzEv _ _ _ _ [.int q76.1] _ _
      refine ev_aload_n zo_213_454 rfl rfl rfl rfl ?_
      refine ev_aload_n zo_213_455 rfl rfl rfl rfl ?_
      refine ev_iload_n zo_213_456 rfl rfl rfl ?_
      refine ev_iconst (x := 1) zo_213_457 (by decide) rfl ?_
      refine ev_iadd zo_213_458 rfl ?_
      obtain ⟨c77, h⟩ := zz_chk h
      refine ev_sald zo_213_459 c77 rfl ?_
      refine ev_aload_n zo_213_460 rfl rfl rfl rfl ?_
      refine ev_iload_n zo_213_461 rfl rfl rfl ?_
      refine ev_iconst (x := 2) zo_213_462 (by decide) rfl ?_
      refine ev_iadd zo_213_463 rfl ?_
      obtain ⟨c78, h⟩ := zz_chk h
      refine ev_sald zo_213_464 c78 rfl ?_
      obtain ⟨q79, hq79, h⟩ := zz_bd h
      refine ev_cV (as := [.int (q76.2.2 2000 (l3 + (2 : Int32)).toNatClampNeg), .int (q76.2.2 2000 (l3 + (1 : Int32)).toNatClampNeg)]) (lsn := [.ref 46, .int (q76.2.2 2000 (l3 + (1 : Int32)).toNatClampNeg), .int (q76.2.2 2000 (l3 + (2 : Int32)).toNatClampNeg), zzU, zzU, zzU]) (by omega) zo_213_465 zl_213_60 (by rw [zm_183]; rfl) (by rw [zm_183]; exact rfl) (by rw [zm_183]; decide) (by unfold zzIn; rw [zm_183]; rfl) (by rw [zm_183]; exact Nat.le_of_ble_eq_true rfl) (Nat.le_of_ble_eq_true rfl) (G_X7_best (by omega) (q76.2.2 2000 (l3 + (1 : Int32)).toNatClampNeg) (q76.2.2 2000 (l3 + (2 : Int32)).toNatClampNeg) q76.2 q79 hq79) rfl ?_
      show zzEv _ _ _ _ [.int q79.1, .int q76.1] _ _
      by_cases c80 : q76.1 = q79.1
      · rw [if_pos c80] at h
        refine ev_cmp_t (t := 1025) zo_213_468 rfl (zcm_eq c80) ?_
        refine ev_iinc (v := 6) zo_213_1025 rfl (by decide) (zz_set rfl (by decide) (Nat.le_of_ble_eq_true rfl)) rfl ?_
        show zzEv _ _ _ [.ref 2000, .ref 0, .ref 46, .int (l3 + 6)] _ _ _
        refine ev_goto (t := 18) zo_213_1028 rfl ?_
        exact ih (l3 + 6) q79.2 r h
      rw [if_neg c80] at h
      refine ev_cmp_f (t := 1025) zo_213_468 rfl (zcm_neq c80) rfl ?_
      refine ev_iconst (x := 0) zo_213_471 (by decide) rfl ?_
      obtain rfl := Option.some.inj h
      exact ev_retZ zo_213_472 zr_213 (Or.inl rfl)
    rw [if_neg s73] at h
    by_cases s81 : ((J.2 2000 l3.toNatClampNeg) &&& (31 : Int32)) = 11
    · rw [if_pos s81] at h
      refine ev_tableIn (t := 473) zo_213_33 s81 rfl ?_
      refine ev_aload_n zo_213_473 rfl rfl rfl rfl ?_
      refine ev_aload_n zo_213_474 rfl rfl rfl rfl ?_
      refine ev_iload_n zo_213_475 rfl rfl rfl ?_
      refine ev_iconst (x := 1) zo_213_476 (by decide) rfl ?_
      refine ev_iadd zo_213_477 rfl ?_
      obtain ⟨c82, h⟩ := zz_chk h
      refine ev_sald zo_213_478 c82 rfl ?_
      obtain ⟨q83, hq83, h⟩ := zz_bd h
      refine ev_cV (as := [.int (J.2 2000 (l3 + (1 : Int32)).toNatClampNeg)]) (lsn := [.ref 0, .int (J.2 2000 (l3 + (1 : Int32)).toNatClampNeg), zzU, zzU, zzU, zzU, zzU]) (by omega) zo_213_479 zl_213_61 (by rw [zm_95]; rfl) (by rw [zm_95]; exact rfl) (by rw [zm_95]; decide) (by unfold zzIn; rw [zm_95]; rfl) (by rw [zm_95]; exact Nat.le_of_ble_eq_true rfl) (Nat.le_of_ble_eq_true rfl) (G_X6_change (by omega) (J.2 2000 (l3 + (1 : Int32)).toNatClampNeg) J q83 hq83) rfl ?_
      show zzEv _ _ _ _ [.int q83.1] _ _
      refine ev_aload_n zo_213_482 rfl rfl rfl rfl ?_
      refine ev_aload_n zo_213_483 rfl rfl rfl rfl ?_
      refine ev_iload_n zo_213_484 rfl rfl rfl ?_
      refine ev_iconst (x := 1) zo_213_485 (by decide) rfl ?_
      refine ev_iadd zo_213_486 rfl ?_
      obtain ⟨c84, h⟩ := zz_chk h
      refine ev_sald zo_213_487 c84 rfl ?_
      obtain ⟨q85, hq85, h⟩ := zz_bd h
      refine ev_cV (as := [.int (q83.2.2 2000 (l3 + (1 : Int32)).toNatClampNeg)]) (lsn := [.ref 46, .int (q83.2.2 2000 (l3 + (1 : Int32)).toNatClampNeg), zzU, zzU]) (by omega) zo_213_488 zl_213_64 (by rw [zm_186]; rfl) (by rw [zm_186]; exact rfl) (by rw [zm_186]; decide) (by unfold zzIn; rw [zm_186]; rfl) (by rw [zm_186]; exact Nat.le_of_ble_eq_true rfl) (Nat.le_of_ble_eq_true rfl) (G_X7_change (by omega) (q83.2.2 2000 (l3 + (1 : Int32)).toNatClampNeg) q83.2 q85 hq85) rfl ?_
      show zzEv _ _ _ _ [.int q85.1, .int q83.1] _ _
      by_cases c86 : q83.1 = q85.1
      · rw [if_pos c86] at h
        refine ev_cmp_t (t := 1025) zo_213_491 rfl (zcm_eq c86) ?_
        refine ev_iinc (v := 6) zo_213_1025 rfl (by decide) (zz_set rfl (by decide) (Nat.le_of_ble_eq_true rfl)) rfl ?_
        show zzEv _ _ _ [.ref 2000, .ref 0, .ref 46, .int (l3 + 6)] _ _ _
        refine ev_goto (t := 18) zo_213_1028 rfl ?_
        exact ih (l3 + 6) q85.2 r h
      rw [if_neg c86] at h
      refine ev_cmp_f (t := 1025) zo_213_491 rfl (zcm_neq c86) rfl ?_
      refine ev_iconst (x := 0) zo_213_494 (by decide) rfl ?_
      obtain rfl := Option.some.inj h
      exact ev_retZ zo_213_495 zr_213 (Or.inl rfl)
    rw [if_neg s81] at h
    by_cases s87 : ((J.2 2000 l3.toNatClampNeg) &&& (31 : Int32)) = 12
    · rw [if_pos s87] at h
      refine ev_tableIn (t := 496) zo_213_33 s87 rfl ?_
      refine ev_aload_n zo_213_496 rfl rfl rfl rfl ?_
      refine ev_aload_n zo_213_497 rfl rfl rfl rfl ?_
      refine ev_iload_n zo_213_498 rfl rfl rfl ?_
      refine ev_iconst (x := 1) zo_213_499 (by decide) rfl ?_
      refine ev_iadd zo_213_500 rfl ?_
      obtain ⟨c88, h⟩ := zz_chk h
      refine ev_sald zo_213_501 c88 rfl ?_
      obtain ⟨q89, hq89, h⟩ := zz_bd h
      refine ev_cV (as := [.int (J.2 2000 (l3 + (1 : Int32)).toNatClampNeg)]) (lsn := [.ref 0, .int (J.2 2000 (l3 + (1 : Int32)).toNatClampNeg), zzU, zzU, zzU, zzU, zzU, zzU, zzU]) (by omega) zo_213_502 zl_213_65 (by rw [zm_96]; rfl) (by rw [zm_96]; exact rfl) (by rw [zm_96]; decide) (by unfold zzIn; rw [zm_96]; rfl) (by rw [zm_96]; exact Nat.le_of_ble_eq_true rfl) (Nat.le_of_ble_eq_true rfl) (G_X6_watch (by omega) (J.2 2000 (l3 + (1 : Int32)).toNatClampNeg) J q89 hq89) rfl ?_
      show zzEv _ _ _ _ [.int q89.1] _ _
      refine ev_aload_n zo_213_505 rfl rfl rfl rfl ?_
      refine ev_aload_n zo_213_506 rfl rfl rfl rfl ?_
      refine ev_iload_n zo_213_507 rfl rfl rfl ?_
      refine ev_iconst (x := 1) zo_213_508 (by decide) rfl ?_
      refine ev_iadd zo_213_509 rfl ?_
      obtain ⟨c90, h⟩ := zz_chk h
      refine ev_sald zo_213_510 c90 rfl ?_
      obtain ⟨q91, hq91, h⟩ := zz_bd h
      refine ev_cV (as := [.int (q89.2.2 2000 (l3 + (1 : Int32)).toNatClampNeg)]) (lsn := [.ref 46, .int (q89.2.2 2000 (l3 + (1 : Int32)).toNatClampNeg), zzU, zzU, zzU, zzU, zzU, zzU]) (by omega) zo_213_511 zl_213_68 (by rw [zm_188]; rfl) (by rw [zm_188]; exact rfl) (by rw [zm_188]; decide) (by unfold zzIn; rw [zm_188]; rfl) (by rw [zm_188]; exact Nat.le_of_ble_eq_true rfl) (Nat.le_of_ble_eq_true rfl) (G_X7_watch (by omega) (q89.2.2 2000 (l3 + (1 : Int32)).toNatClampNeg) q89.2 q91 hq91) rfl ?_
      show zzEv _ _ _ _ [.int q91.1, .int q89.1] _ _
      by_cases c92 : q89.1 = q91.1
      · rw [if_pos c92] at h
        refine ev_cmp_t (t := 1025) zo_213_514 rfl (zcm_eq c92) ?_
        refine ev_iinc (v := 6) zo_213_1025 rfl (by decide) (zz_set rfl (by decide) (Nat.le_of_ble_eq_true rfl)) rfl ?_
        show zzEv _ _ _ [.ref 2000, .ref 0, .ref 46, .int (l3 + 6)] _ _ _
        refine ev_goto (t := 18) zo_213_1028 rfl ?_
        exact ih (l3 + 6) q91.2 r h
      rw [if_neg c92] at h
      refine ev_cmp_f (t := 1025) zo_213_514 rfl (zcm_neq c92) rfl ?_
      refine ev_iconst (x := 0) zo_213_517 (by decide) rfl ?_
      obtain rfl := Option.some.inj h
      exact ev_retZ zo_213_518 zr_213 (Or.inl rfl)
    rw [if_neg s87] at h
    by_cases s93 : ((J.2 2000 l3.toNatClampNeg) &&& (31 : Int32)) = 13
    · rw [if_pos s93] at h
      refine ev_tableIn (t := 519) zo_213_33 s93 rfl ?_
      refine ev_aload_n zo_213_519 rfl rfl rfl rfl ?_
      refine ev_aload_n zo_213_520 rfl rfl rfl rfl ?_
      refine ev_iload_n zo_213_521 rfl rfl rfl ?_
      refine ev_iconst (x := 1) zo_213_522 (by decide) rfl ?_
      refine ev_iadd zo_213_523 rfl ?_
      obtain ⟨c94, h⟩ := zz_chk h
      refine ev_sald zo_213_524 c94 rfl ?_
      refine ev_aload_n zo_213_525 rfl rfl rfl rfl ?_
      refine ev_iload_n zo_213_526 rfl rfl rfl ?_
      refine ev_iconst (x := 2) zo_213_527 (by decide) rfl ?_
      refine ev_iadd zo_213_528 rfl ?_
      obtain ⟨c95, h⟩ := zz_chk h
      refine ev_sald zo_213_529 c95 rfl ?_
      obtain ⟨q96, hq96, h⟩ := zz_bd h
      refine ev_cV (as := [.int (J.2 2000 (l3 + (2 : Int32)).toNatClampNeg), .int (J.2 2000 (l3 + (1 : Int32)).toNatClampNeg)]) (lsn := [.ref 0, .int (J.2 2000 (l3 + (1 : Int32)).toNatClampNeg), .int (J.2 2000 (l3 + (2 : Int32)).toNatClampNeg), zzU]) (by omega) zo_213_530 zl_213_69 (by rw [zm_97]; rfl) (by rw [zm_97]; exact rfl) (by rw [zm_97]; decide) (by unfold zzIn; rw [zm_97]; rfl) (by rw [zm_97]; exact Nat.le_of_ble_eq_true rfl) (Nat.le_of_ble_eq_true rfl) (G_X6_hat (by omega) (J.2 2000 (l3 + (1 : Int32)).toNatClampNeg) (J.2 2000 (l3 + (2 : Int32)).toNatClampNeg) J q96 hq96) rfl ?_
      show zzEv _ _ _ _ [.int q96.1] _ _
      refine ev_aload_n zo_213_533 rfl rfl rfl rfl ?_
      refine ev_aload_n zo_213_534 rfl rfl rfl rfl ?_
      refine ev_iload_n zo_213_535 rfl rfl rfl ?_
      refine ev_iconst (x := 1) zo_213_536 (by decide) rfl ?_
      refine ev_iadd zo_213_537 rfl ?_
      obtain ⟨c97, h⟩ := zz_chk h
      refine ev_sald zo_213_538 c97 rfl ?_
      refine ev_aload_n zo_213_539 rfl rfl rfl rfl ?_
      refine ev_iload_n zo_213_540 rfl rfl rfl ?_
      refine ev_iconst (x := 2) zo_213_541 (by decide) rfl ?_
      refine ev_iadd zo_213_542 rfl ?_
      obtain ⟨c98, h⟩ := zz_chk h
      refine ev_sald zo_213_543 c98 rfl ?_
      obtain ⟨q99, hq99, h⟩ := zz_bd h
      refine ev_cV (as := [.int (q96.2.2 2000 (l3 + (2 : Int32)).toNatClampNeg), .int (q96.2.2 2000 (l3 + (1 : Int32)).toNatClampNeg)]) (lsn := [.ref 46, .int (q96.2.2 2000 (l3 + (1 : Int32)).toNatClampNeg), .int (q96.2.2 2000 (l3 + (2 : Int32)).toNatClampNeg), zzU]) (by omega) zo_213_544 zl_213_72 (by rw [zm_193]; rfl) (by rw [zm_193]; exact rfl) (by rw [zm_193]; decide) (by unfold zzIn; rw [zm_193]; rfl) (by rw [zm_193]; exact Nat.le_of_ble_eq_true rfl) (Nat.le_of_ble_eq_true rfl) (G_X7_hat (by omega) (q96.2.2 2000 (l3 + (1 : Int32)).toNatClampNeg) (q96.2.2 2000 (l3 + (2 : Int32)).toNatClampNeg) q96.2 q99 hq99) rfl ?_
      show zzEv _ _ _ _ [.int q99.1, .int q96.1] _ _
      by_cases c100 : q96.1 = q99.1
      · rw [if_pos c100] at h
        refine ev_cmp_t (t := 1025) zo_213_547 rfl (zcm_eq c100) ?_
        refine ev_iinc (v := 6) zo_213_1025 rfl (by decide) (zz_set rfl (by decide) (Nat.le_of_ble_eq_true rfl)) rfl ?_
        show zzEv _ _ _ [.ref 2000, .ref 0, .ref 46, .int (l3 + 6)] _ _ _
        refine ev_goto (t := 18) zo_213_1028 rfl ?_
        exact ih (l3 + 6) q99.2 r h
      rw [if_neg c100] at h
      refine ev_cmp_f (t := 1025) zo_213_547 rfl (zcm_neq c100) rfl ?_
      refine ev_iconst (x := 0) zo_213_550 (by decide) rfl ?_
      obtain rfl := Option.some.inj h
      exact ev_retZ zo_213_551 zr_213 (Or.inl rfl)
    rw [if_neg s93] at h
    by_cases s101 : ((J.2 2000 l3.toNatClampNeg) &&& (31 : Int32)) = 14
    · rw [if_pos s101] at h
      refine ev_tableIn (t := 552) zo_213_33 s101 rfl ?_
      refine ev_aload_n zo_213_552 rfl rfl rfl rfl ?_
      refine ev_aload_n zo_213_553 rfl rfl rfl rfl ?_
      refine ev_iload_n zo_213_554 rfl rfl rfl ?_
      refine ev_iconst (x := 1) zo_213_555 (by decide) rfl ?_
      refine ev_iadd zo_213_556 rfl ?_
      obtain ⟨c102, h⟩ := zz_chk h
      refine ev_sald zo_213_557 c102 rfl ?_
      refine ev_aload_n zo_213_558 rfl rfl rfl rfl ?_
      refine ev_iload_n zo_213_559 rfl rfl rfl ?_
      refine ev_iconst (x := 2) zo_213_560 (by decide) rfl ?_
      refine ev_iadd zo_213_561 rfl ?_
      obtain ⟨c103, h⟩ := zz_chk h
      refine ev_sald zo_213_562 c103 rfl ?_
      obtain ⟨q104, hq104, h⟩ := zz_bd h
      refine ev_cV (as := [.int (J.2 2000 (l3 + (2 : Int32)).toNatClampNeg), .int (J.2 2000 (l3 + (1 : Int32)).toNatClampNeg)]) (lsn := [.ref 0, .int (J.2 2000 (l3 + (1 : Int32)).toNatClampNeg), .int (J.2 2000 (l3 + (2 : Int32)).toNatClampNeg), zzU, zzU, zzU, zzU, zzU]) (by omega) zo_213_563 zl_213_73 (by rw [zm_98]; rfl) (by rw [zm_98]; exact rfl) (by rw [zm_98]; decide) (by unfold zzIn; rw [zm_98]; rfl) (by rw [zm_98]; exact Nat.le_of_ble_eq_true rfl) (Nat.le_of_ble_eq_true rfl) (G_X6_front (by omega) (J.2 2000 (l3 + (1 : Int32)).toNatClampNeg) (J.2 2000 (l3 + (2 : Int32)).toNatClampNeg) J q104 hq104) rfl ?_
      show zzEv _ _ _ _ [.int q104.1] _ _
      refine ev_aload_n zo_213_566 rfl rfl rfl rfl ?_
      refine ev_aload_n zo_213_567 rfl rfl rfl rfl ?_
      refine ev_iload_n zo_213_568 rfl rfl rfl ?_
      refine ev_iconst (x := 1) zo_213_569 (by decide) rfl ?_
      refine ev_iadd zo_213_570 rfl ?_
      obtain ⟨c105, h⟩ := zz_chk h
      refine ev_sald zo_213_571 c105 rfl ?_
      refine ev_aload_n zo_213_572 rfl rfl rfl rfl ?_
      refine ev_iload_n zo_213_573 rfl rfl rfl ?_
      refine ev_iconst (x := 2) zo_213_574 (by decide) rfl ?_
      refine ev_iadd zo_213_575 rfl ?_
      obtain ⟨c106, h⟩ := zz_chk h
      refine ev_sald zo_213_576 c106 rfl ?_
      obtain ⟨q107, hq107, h⟩ := zz_bd h
      refine ev_cV (as := [.int (q104.2.2 2000 (l3 + (2 : Int32)).toNatClampNeg), .int (q104.2.2 2000 (l3 + (1 : Int32)).toNatClampNeg)]) (lsn := [.ref 46, .int (q104.2.2 2000 (l3 + (1 : Int32)).toNatClampNeg), .int (q104.2.2 2000 (l3 + (2 : Int32)).toNatClampNeg), zzU, zzU, zzU]) (by omega) zo_213_577 zl_213_76 (by rw [zm_194]; rfl) (by rw [zm_194]; exact rfl) (by rw [zm_194]; decide) (by unfold zzIn; rw [zm_194]; rfl) (by rw [zm_194]; exact Nat.le_of_ble_eq_true rfl) (Nat.le_of_ble_eq_true rfl) (G_X7_front (by omega) (q104.2.2 2000 (l3 + (1 : Int32)).toNatClampNeg) (q104.2.2 2000 (l3 + (2 : Int32)).toNatClampNeg) q104.2 q107 hq107) rfl ?_
      show zzEv _ _ _ _ [.int q107.1, .int q104.1] _ _
      by_cases c108 : q104.1 = q107.1
      · rw [if_pos c108] at h
        refine ev_cmp_t (t := 1025) zo_213_580 rfl (zcm_eq c108) ?_
        refine ev_iinc (v := 6) zo_213_1025 rfl (by decide) (zz_set rfl (by decide) (Nat.le_of_ble_eq_true rfl)) rfl ?_
        show zzEv _ _ _ [.ref 2000, .ref 0, .ref 46, .int (l3 + 6)] _ _ _
        refine ev_goto (t := 18) zo_213_1028 rfl ?_
        exact ih (l3 + 6) q107.2 r h
      rw [if_neg c108] at h
      refine ev_cmp_f (t := 1025) zo_213_580 rfl (zcm_neq c108) rfl ?_
      refine ev_iconst (x := 0) zo_213_583 (by decide) rfl ?_
      obtain rfl := Option.some.inj h
      exact ev_retZ zo_213_584 zr_213 (Or.inl rfl)
    rw [if_neg s101] at h
    by_cases s109 : ((J.2 2000 l3.toNatClampNeg) &&& (31 : Int32)) = 15
    · rw [if_pos s109] at h
      refine ev_tableIn (t := 585) zo_213_33 s109 rfl ?_
      refine ev_aload_n zo_213_585 rfl rfl rfl rfl ?_
      refine ev_aload_n zo_213_586 rfl rfl rfl rfl ?_
      refine ev_iload_n zo_213_587 rfl rfl rfl ?_
      refine ev_iconst (x := 1) zo_213_588 (by decide) rfl ?_
      refine ev_iadd zo_213_589 rfl ?_
      obtain ⟨c110, h⟩ := zz_chk h
      refine ev_sald zo_213_590 c110 rfl ?_
      refine ev_aload_n zo_213_591 rfl rfl rfl rfl ?_
      refine ev_iload_n zo_213_592 rfl rfl rfl ?_
      refine ev_iconst (x := 2) zo_213_593 (by decide) rfl ?_
      refine ev_iadd zo_213_594 rfl ?_
      obtain ⟨c111, h⟩ := zz_chk h
      refine ev_sald zo_213_595 c111 rfl ?_
      obtain ⟨q112, hq112, h⟩ := zz_bd h
      refine ev_cV (as := [.int (J.2 2000 (l3 + (2 : Int32)).toNatClampNeg), .int (J.2 2000 (l3 + (1 : Int32)).toNatClampNeg)]) (lsn := [.ref 0, .int (J.2 2000 (l3 + (1 : Int32)).toNatClampNeg), .int (J.2 2000 (l3 + (2 : Int32)).toNatClampNeg), zzU, zzU, zzU, zzU]) (by omega) zo_213_596 zl_213_77 (by rw [zm_99]; rfl) (by rw [zm_99]; exact rfl) (by rw [zm_99]; decide) (by unfold zzIn; rw [zm_99]; rfl) (by rw [zm_99]; exact Nat.le_of_ble_eq_true rfl) (Nat.le_of_ble_eq_true rfl) (G_X6_stop (by omega) (J.2 2000 (l3 + (1 : Int32)).toNatClampNeg) (J.2 2000 (l3 + (2 : Int32)).toNatClampNeg) J q112 hq112) rfl ?_
      show zzEv _ _ _ _ [.int q112.1] _ _
      refine ev_aload_n zo_213_599 rfl rfl rfl rfl ?_
      refine ev_aload_n zo_213_600 rfl rfl rfl rfl ?_
      refine ev_iload_n zo_213_601 rfl rfl rfl ?_
      refine ev_iconst (x := 1) zo_213_602 (by decide) rfl ?_
      refine ev_iadd zo_213_603 rfl ?_
      obtain ⟨c113, h⟩ := zz_chk h
      refine ev_sald zo_213_604 c113 rfl ?_
      refine ev_aload_n zo_213_605 rfl rfl rfl rfl ?_
      refine ev_iload_n zo_213_606 rfl rfl rfl ?_
      refine ev_iconst (x := 2) zo_213_607 (by decide) rfl ?_
      refine ev_iadd zo_213_608 rfl ?_
      obtain ⟨c114, h⟩ := zz_chk h
      refine ev_sald zo_213_609 c114 rfl ?_
      obtain ⟨q115, hq115, h⟩ := zz_bd h
      refine ev_cV (as := [.int (q112.2.2 2000 (l3 + (2 : Int32)).toNatClampNeg), .int (q112.2.2 2000 (l3 + (1 : Int32)).toNatClampNeg)]) (lsn := [.ref 46, .int (q112.2.2 2000 (l3 + (1 : Int32)).toNatClampNeg), .int (q112.2.2 2000 (l3 + (2 : Int32)).toNatClampNeg), zzU]) (by omega) zo_213_610 zl_213_80 (by rw [zm_195]; rfl) (by rw [zm_195]; exact rfl) (by rw [zm_195]; decide) (by unfold zzIn; rw [zm_195]; rfl) (by rw [zm_195]; exact Nat.le_of_ble_eq_true rfl) (Nat.le_of_ble_eq_true rfl) (G_X7_stop (by omega) (q112.2.2 2000 (l3 + (1 : Int32)).toNatClampNeg) (q112.2.2 2000 (l3 + (2 : Int32)).toNatClampNeg) q112.2 q115 hq115) rfl ?_
      show zzEv _ _ _ _ [.int q115.1, .int q112.1] _ _
      by_cases c116 : q112.1 = q115.1
      · rw [if_pos c116] at h
        refine ev_cmp_t (t := 1025) zo_213_613 rfl (zcm_eq c116) ?_
        refine ev_iinc (v := 6) zo_213_1025 rfl (by decide) (zz_set rfl (by decide) (Nat.le_of_ble_eq_true rfl)) rfl ?_
        show zzEv _ _ _ [.ref 2000, .ref 0, .ref 46, .int (l3 + 6)] _ _ _
        refine ev_goto (t := 18) zo_213_1028 rfl ?_
        exact ih (l3 + 6) q115.2 r h
      rw [if_neg c116] at h
      refine ev_cmp_f (t := 1025) zo_213_613 rfl (zcm_neq c116) rfl ?_
      refine ev_iconst (x := 0) zo_213_616 (by decide) rfl ?_
      obtain rfl := Option.some.inj h
      exact ev_retZ zo_213_617 zr_213 (Or.inl rfl)
    rw [if_neg s109] at h
    by_cases s117 : ((J.2 2000 l3.toNatClampNeg) &&& (31 : Int32)) = 16
    · rw [if_pos s117] at h
      refine ev_tableIn (t := 618) zo_213_33 s117 rfl ?_
      refine ev_aload_n zo_213_618 rfl rfl rfl rfl ?_
      refine ev_aload_n zo_213_619 rfl rfl rfl rfl ?_
      refine ev_iload_n zo_213_620 rfl rfl rfl ?_
      refine ev_iconst (x := 1) zo_213_621 (by decide) rfl ?_
      refine ev_iadd zo_213_622 rfl ?_
      obtain ⟨c118, h⟩ := zz_chk h
      refine ev_sald zo_213_623 c118 rfl ?_
      refine ev_aload_n zo_213_624 rfl rfl rfl rfl ?_
      refine ev_iload_n zo_213_625 rfl rfl rfl ?_
      refine ev_iconst (x := 2) zo_213_626 (by decide) rfl ?_
      refine ev_iadd zo_213_627 rfl ?_
      obtain ⟨c119, h⟩ := zz_chk h
      refine ev_sald zo_213_628 c119 rfl ?_
      obtain ⟨q120, hq120, h⟩ := zz_bd h
      refine ev_cV (as := [.int (J.2 2000 (l3 + (2 : Int32)).toNatClampNeg), .int (J.2 2000 (l3 + (1 : Int32)).toNatClampNeg)]) (lsn := [.ref 0, .int (J.2 2000 (l3 + (1 : Int32)).toNatClampNeg), .int (J.2 2000 (l3 + (2 : Int32)).toNatClampNeg), zzU, zzU, zzU, zzU]) (by omega) zo_213_629 zl_213_81 (by rw [zm_104]; rfl) (by rw [zm_104]; exact rfl) (by rw [zm_104]; decide) (by unfold zzIn; rw [zm_104]; rfl) (by rw [zm_104]; exact Nat.le_of_ble_eq_true rfl) (Nat.le_of_ble_eq_true rfl) (G_X6_tells (by omega) (J.2 2000 (l3 + (1 : Int32)).toNatClampNeg) (J.2 2000 (l3 + (2 : Int32)).toNatClampNeg) J q120 hq120) rfl ?_
      show zzEv _ _ _ _ [.int q120.1] _ _
      refine ev_aload_n zo_213_632 rfl rfl rfl rfl ?_
      refine ev_aload_n zo_213_633 rfl rfl rfl rfl ?_
      refine ev_iload_n zo_213_634 rfl rfl rfl ?_
      refine ev_iconst (x := 1) zo_213_635 (by decide) rfl ?_
      refine ev_iadd zo_213_636 rfl ?_
      obtain ⟨c121, h⟩ := zz_chk h
      refine ev_sald zo_213_637 c121 rfl ?_
      refine ev_aload_n zo_213_638 rfl rfl rfl rfl ?_
      refine ev_iload_n zo_213_639 rfl rfl rfl ?_
      refine ev_iconst (x := 2) zo_213_640 (by decide) rfl ?_
      refine ev_iadd zo_213_641 rfl ?_
      obtain ⟨c122, h⟩ := zz_chk h
      refine ev_sald zo_213_642 c122 rfl ?_
      obtain ⟨q123, hq123, h⟩ := zz_bd h
      refine ev_cV (as := [.int (q120.2.2 2000 (l3 + (2 : Int32)).toNatClampNeg), .int (q120.2.2 2000 (l3 + (1 : Int32)).toNatClampNeg)]) (lsn := [.ref 46, .int (q120.2.2 2000 (l3 + (1 : Int32)).toNatClampNeg), .int (q120.2.2 2000 (l3 + (2 : Int32)).toNatClampNeg), zzU, zzU, zzU, zzU, zzU, zzU, zzU, zzU, zzU]) (by omega) zo_213_643 zl_213_84 (by rw [zm_198]; rfl) (by rw [zm_198]; exact rfl) (by rw [zm_198]; decide) (by unfold zzIn; rw [zm_198]; rfl) (by rw [zm_198]; exact Nat.le_of_ble_eq_true rfl) (Nat.le_of_ble_eq_true rfl) (G_X7_tells (by omega) (q120.2.2 2000 (l3 + (1 : Int32)).toNatClampNeg) (q120.2.2 2000 (l3 + (2 : Int32)).toNatClampNeg) q120.2 q123 hq123) rfl ?_
      show zzEv _ _ _ _ [.int q123.1, .int q120.1] _ _
      by_cases c124 : q120.1 = q123.1
      · rw [if_pos c124] at h
        refine ev_cmp_t (t := 1025) zo_213_646 rfl (zcm_eq c124) ?_
        refine ev_iinc (v := 6) zo_213_1025 rfl (by decide) (zz_set rfl (by decide) (Nat.le_of_ble_eq_true rfl)) rfl ?_
        show zzEv _ _ _ [.ref 2000, .ref 0, .ref 46, .int (l3 + 6)] _ _ _
        refine ev_goto (t := 18) zo_213_1028 rfl ?_
        exact ih (l3 + 6) q123.2 r h
      rw [if_neg c124] at h
      refine ev_cmp_f (t := 1025) zo_213_646 rfl (zcm_neq c124) rfl ?_
      refine ev_iconst (x := 0) zo_213_649 (by decide) rfl ?_
      obtain rfl := Option.some.inj h
      exact ev_retZ zo_213_650 zr_213 (Or.inl rfl)
    rw [if_neg s117] at h
    by_cases s125 : ((J.2 2000 l3.toNatClampNeg) &&& (31 : Int32)) = 17
    · rw [if_pos s125] at h
      refine ev_tableIn (t := 651) zo_213_33 s125 rfl ?_
      refine ev_aload_n zo_213_651 rfl rfl rfl rfl ?_
      refine ev_aload_n zo_213_652 rfl rfl rfl rfl ?_
      refine ev_iload_n zo_213_653 rfl rfl rfl ?_
      refine ev_iconst (x := 1) zo_213_654 (by decide) rfl ?_
      refine ev_iadd zo_213_655 rfl ?_
      obtain ⟨c126, h⟩ := zz_chk h
      refine ev_sald zo_213_656 c126 rfl ?_
      obtain ⟨q127, hq127, h⟩ := zz_bd h
      refine ev_cV (as := [.int (J.2 2000 (l3 + (1 : Int32)).toNatClampNeg)]) (lsn := [.ref 0, .int (J.2 2000 (l3 + (1 : Int32)).toNatClampNeg), zzU, zzU]) (by omega) zo_213_657 zl_213_85 (by rw [zm_110]; rfl) (by rw [zm_110]; exact rfl) (by rw [zm_110]; decide) (by unfold zzIn; rw [zm_110]; rfl) (by rw [zm_110]; exact Nat.le_of_ble_eq_true rfl) (Nat.le_of_ble_eq_true rfl) (G_X6_film (by omega) (J.2 2000 (l3 + (1 : Int32)).toNatClampNeg) J q127 hq127) rfl ?_
      show zzEv _ _ _ _ [.int q127.1] _ _
      refine ev_aload_n zo_213_660 rfl rfl rfl rfl ?_
      refine ev_aload_n zo_213_661 rfl rfl rfl rfl ?_
      refine ev_iload_n zo_213_662 rfl rfl rfl ?_
      refine ev_iconst (x := 1) zo_213_663 (by decide) rfl ?_
      refine ev_iadd zo_213_664 rfl ?_
      obtain ⟨c128, h⟩ := zz_chk h
      refine ev_sald zo_213_665 c128 rfl ?_
      obtain ⟨q129, hq129, h⟩ := zz_bd h
      refine ev_cV (as := [.int (q127.2.2 2000 (l3 + (1 : Int32)).toNatClampNeg)]) (lsn := [.ref 46, .int (q127.2.2 2000 (l3 + (1 : Int32)).toNatClampNeg), zzU]) (by omega) zo_213_666 zl_213_88 (by rw [zm_199]; rfl) (by rw [zm_199]; exact rfl) (by rw [zm_199]; decide) (by unfold zzIn; rw [zm_199]; rfl) (by rw [zm_199]; exact Nat.le_of_ble_eq_true rfl) (Nat.le_of_ble_eq_true rfl) (G_X7_film (by omega) (q127.2.2 2000 (l3 + (1 : Int32)).toNatClampNeg) q127.2 q129 hq129) rfl ?_
      show zzEv _ _ _ _ [.int q129.1, .int q127.1] _ _
      by_cases c130 : q127.1 = q129.1
      · rw [if_pos c130] at h
        refine ev_cmp_t (t := 1025) zo_213_669 rfl (zcm_eq c130) ?_
        refine ev_iinc (v := 6) zo_213_1025 rfl (by decide) (zz_set rfl (by decide) (Nat.le_of_ble_eq_true rfl)) rfl ?_
        show zzEv _ _ _ [.ref 2000, .ref 0, .ref 46, .int (l3 + 6)] _ _ _
        refine ev_goto (t := 18) zo_213_1028 rfl ?_
        exact ih (l3 + 6) q129.2 r h
      rw [if_neg c130] at h
      refine ev_cmp_f (t := 1025) zo_213_669 rfl (zcm_neq c130) rfl ?_
      refine ev_iconst (x := 0) zo_213_672 (by decide) rfl ?_
      obtain rfl := Option.some.inj h
      exact ev_retZ zo_213_673 zr_213 (Or.inl rfl)
    rw [if_neg s125] at h
    by_cases s131 : ((J.2 2000 l3.toNatClampNeg) &&& (31 : Int32)) = 18
    · rw [if_pos s131] at h
      refine ev_tableIn (t := 674) zo_213_33 s131 rfl ?_
      refine ev_aload_n zo_213_674 rfl rfl rfl rfl ?_
      refine ev_aload_n zo_213_675 rfl rfl rfl rfl ?_
      refine ev_iload_n zo_213_676 rfl rfl rfl ?_
      refine ev_iconst (x := 1) zo_213_677 (by decide) rfl ?_
      refine ev_iadd zo_213_678 rfl ?_
      obtain ⟨c132, h⟩ := zz_chk h
      refine ev_sald zo_213_679 c132 rfl ?_
      obtain ⟨q133, hq133, h⟩ := zz_bd h
      refine ev_cV (as := [.int (J.2 2000 (l3 + (1 : Int32)).toNatClampNeg)]) (lsn := [.ref 0, .int (J.2 2000 (l3 + (1 : Int32)).toNatClampNeg), zzU, zzU]) (by omega) zo_213_680 zl_213_89 (by rw [zm_111]; rfl) (by rw [zm_111]; exact rfl) (by rw [zm_111]; decide) (by unfold zzIn; rw [zm_111]; rfl) (by rw [zm_111]; exact Nat.le_of_ble_eq_true rfl) (Nat.le_of_ble_eq_true rfl) (G_X6_drawn (by omega) (J.2 2000 (l3 + (1 : Int32)).toNatClampNeg) J q133 hq133) rfl ?_
      show zzEv _ _ _ _ [.int q133.1] _ _
      refine ev_aload_n zo_213_683 rfl rfl rfl rfl ?_
      refine ev_aload_n zo_213_684 rfl rfl rfl rfl ?_
      refine ev_iload_n zo_213_685 rfl rfl rfl ?_
      refine ev_iconst (x := 1) zo_213_686 (by decide) rfl ?_
      refine ev_iadd zo_213_687 rfl ?_
      obtain ⟨c134, h⟩ := zz_chk h
      refine ev_sald zo_213_688 c134 rfl ?_
      obtain ⟨q135, hq135, h⟩ := zz_bd h
      refine ev_cV (as := [.int (q133.2.2 2000 (l3 + (1 : Int32)).toNatClampNeg)]) (lsn := [.ref 46, .int (q133.2.2 2000 (l3 + (1 : Int32)).toNatClampNeg)]) (by omega) zo_213_689 zl_213_92 (by rw [zm_201]; rfl) (by rw [zm_201]; exact rfl) (by rw [zm_201]; decide) (by unfold zzIn; rw [zm_201]; rfl) (by rw [zm_201]; exact Nat.le_of_ble_eq_true rfl) (Nat.le_of_ble_eq_true rfl) (G_X7_drawn (by omega) (q133.2.2 2000 (l3 + (1 : Int32)).toNatClampNeg) q133.2 q135 hq135) rfl ?_
      show zzEv _ _ _ _ [.int q135.1, .int q133.1] _ _
      by_cases c136 : q133.1 = q135.1
      · rw [if_pos c136] at h
        refine ev_cmp_t (t := 1025) zo_213_692 rfl (zcm_eq c136) ?_
        refine ev_iinc (v := 6) zo_213_1025 rfl (by decide) (zz_set rfl (by decide) (Nat.le_of_ble_eq_true rfl)) rfl ?_
        show zzEv _ _ _ [.ref 2000, .ref 0, .ref 46, .int (l3 + 6)] _ _ _
        refine ev_goto (t := 18) zo_213_1028 rfl ?_
        exact ih (l3 + 6) q135.2 r h
      rw [if_neg c136] at h
      refine ev_cmp_f (t := 1025) zo_213_692 rfl (zcm_neq c136) rfl ?_
      refine ev_iconst (x := 0) zo_213_695 (by decide) rfl ?_
      obtain rfl := Option.some.inj h
      exact ev_retZ zo_213_696 zr_213 (Or.inl rfl)
    rw [if_neg s131] at h
    by_cases s137 : ((J.2 2000 l3.toNatClampNeg) &&& (31 : Int32)) = 19
    · rw [if_pos s137] at h
      refine ev_tableIn (t := 697) zo_213_33 s137 rfl ?_
      refine ev_aload_n zo_213_697 rfl rfl rfl rfl ?_
      refine ev_aload_n zo_213_698 rfl rfl rfl rfl ?_
      refine ev_iload_n zo_213_699 rfl rfl rfl ?_
      refine ev_iconst (x := 1) zo_213_700 (by decide) rfl ?_
      refine ev_iadd zo_213_701 rfl ?_
      obtain ⟨c138, h⟩ := zz_chk h
      refine ev_sald zo_213_702 c138 rfl ?_
      refine ev_aload_n zo_213_703 rfl rfl rfl rfl ?_
      refine ev_iload_n zo_213_704 rfl rfl rfl ?_
      refine ev_iconst (x := 2) zo_213_705 (by decide) rfl ?_
      refine ev_iadd zo_213_706 rfl ?_
      obtain ⟨c139, h⟩ := zz_chk h
      refine ev_sald zo_213_707 c139 rfl ?_
      refine ev_aload_n zo_213_708 rfl rfl rfl rfl ?_
      refine ev_iload_n zo_213_709 rfl rfl rfl ?_
      refine ev_iconst (x := 3) zo_213_710 (by decide) rfl ?_
      refine ev_iadd zo_213_711 rfl ?_
      obtain ⟨c140, h⟩ := zz_chk h
      refine ev_sald zo_213_712 c140 rfl ?_
      obtain ⟨q141, hq141, h⟩ := zz_bd h
      refine ev_cV (as := [.int (J.2 2000 (l3 + (3 : Int32)).toNatClampNeg), .int (J.2 2000 (l3 + (2 : Int32)).toNatClampNeg), .int (J.2 2000 (l3 + (1 : Int32)).toNatClampNeg)]) (lsn := [.ref 0, .int (J.2 2000 (l3 + (1 : Int32)).toNatClampNeg), .int (J.2 2000 (l3 + (2 : Int32)).toNatClampNeg), .int (J.2 2000 (l3 + (3 : Int32)).toNatClampNeg), zzU, zzU, zzU]) (by omega) zo_213_713 zl_213_93 (by rw [zm_112]; rfl) (by rw [zm_112]; exact rfl) (by rw [zm_112]; decide) (by unfold zzIn; rw [zm_112]; rfl) (by rw [zm_112]; exact Nat.le_of_ble_eq_true rfl) (Nat.le_of_ble_eq_true rfl) (G_X6_chance (by omega) (J.2 2000 (l3 + (1 : Int32)).toNatClampNeg) (J.2 2000 (l3 + (2 : Int32)).toNatClampNeg) (J.2 2000 (l3 + (3 : Int32)).toNatClampNeg) J q141 hq141) rfl ?_
      show zzEv _ _ _ _ [.long q141.1] _ _
      refine ev_aload_n zo_213_716 rfl rfl rfl rfl ?_
      refine ev_aload_n zo_213_717 rfl rfl rfl rfl ?_
      refine ev_iload_n zo_213_718 rfl rfl rfl ?_
      refine ev_iconst (x := 1) zo_213_719 (by decide) rfl ?_
      refine ev_iadd zo_213_720 rfl ?_
      obtain ⟨c142, h⟩ := zz_chk h
      refine ev_sald zo_213_721 c142 rfl ?_
      refine ev_aload_n zo_213_722 rfl rfl rfl rfl ?_
      refine ev_iload_n zo_213_723 rfl rfl rfl ?_
      refine ev_iconst (x := 2) zo_213_724 (by decide) rfl ?_
      refine ev_iadd zo_213_725 rfl ?_
      obtain ⟨c143, h⟩ := zz_chk h
      refine ev_sald zo_213_726 c143 rfl ?_
      refine ev_aload_n zo_213_727 rfl rfl rfl rfl ?_
      refine ev_iload_n zo_213_728 rfl rfl rfl ?_
      refine ev_iconst (x := 3) zo_213_729 (by decide) rfl ?_
      refine ev_iadd zo_213_730 rfl ?_
      obtain ⟨c144, h⟩ := zz_chk h
      refine ev_sald zo_213_731 c144 rfl ?_
      obtain ⟨q145, hq145, h⟩ := zz_bd h
      refine ev_cV (as := [.int (q141.2.2 2000 (l3 + (3 : Int32)).toNatClampNeg), .int (q141.2.2 2000 (l3 + (2 : Int32)).toNatClampNeg), .int (q141.2.2 2000 (l3 + (1 : Int32)).toNatClampNeg)]) (lsn := [.ref 46, .int (q141.2.2 2000 (l3 + (1 : Int32)).toNatClampNeg), .int (q141.2.2 2000 (l3 + (2 : Int32)).toNatClampNeg), .int (q141.2.2 2000 (l3 + (3 : Int32)).toNatClampNeg), zzU, zzU, zzU, zzU, zzU, zzU, zzU, zzU, zzU]) (by omega) zo_213_732 zl_213_97 (by rw [zm_202]; rfl) (by rw [zm_202]; exact rfl) (by rw [zm_202]; decide) (by unfold zzIn; rw [zm_202]; rfl) (by rw [zm_202]; exact Nat.le_of_ble_eq_true rfl) (Nat.le_of_ble_eq_true rfl) (G_X7_chance (by omega) (q141.2.2 2000 (l3 + (1 : Int32)).toNatClampNeg) (q141.2.2 2000 (l3 + (2 : Int32)).toNatClampNeg) (q141.2.2 2000 (l3 + (3 : Int32)).toNatClampNeg) q141.2 q145 hq145) rfl ?_
      show zzEv _ _ _ _ [.long q145.1, .long q141.1] _ _
      refine ev_lcmp zo_213_735 rfl ?_
      by_cases c146 : (lg_cmp q141.1 q145.1) = (0 : Int32)
      · rw [if_pos c146] at h
        refine ev_if_t (t := 1025) zo_213_736 rfl (zcm_eq c146) ?_
        refine ev_iinc (v := 6) zo_213_1025 rfl (by decide) (zz_set rfl (by decide) (Nat.le_of_ble_eq_true rfl)) rfl ?_
        show zzEv _ _ _ [.ref 2000, .ref 0, .ref 46, .int (l3 + 6)] _ _ _
        refine ev_goto (t := 18) zo_213_1028 rfl ?_
        exact ih (l3 + 6) q145.2 r h
      rw [if_neg c146] at h
      refine ev_if_f (t := 1025) zo_213_736 rfl (zcm_neq c146) rfl ?_
      refine ev_iconst (x := 0) zo_213_739 (by decide) rfl ?_
      obtain rfl := Option.some.inj h
      exact ev_retZ zo_213_740 zr_213 (Or.inl rfl)
    rw [if_neg s137] at h
    by_cases s147 : ((J.2 2000 l3.toNatClampNeg) &&& (31 : Int32)) = 20
    · rw [if_pos s147] at h
      refine ev_tableIn (t := 741) zo_213_33 s147 rfl ?_
      refine ev_aload_n zo_213_741 rfl rfl rfl rfl ?_
      obtain ⟨q148, hq148, h⟩ := zz_bd h
      refine ev_cV (as := []) (lsn := [.ref 0]) (by omega) zo_213_742 zl_213_98 (by rw [zm_114]; rfl) (by rw [zm_114]; exact rfl) (by rw [zm_114]; decide) (by unfold zzIn; rw [zm_114]; rfl) (by rw [zm_114]; exact Nat.le_of_ble_eq_true rfl) (Nat.le_of_ble_eq_true rfl) (G_X6_image (by omega) J q148 hq148) rfl ?_
      show zzEv _ _ _ _ [.int q148.1] _ _
      refine ev_aload_n zo_213_745 rfl rfl rfl rfl ?_
      obtain ⟨q149, hq149, h⟩ := zz_bd h
      refine ev_cV (as := []) (lsn := [.ref 46, zzU]) (by omega) zo_213_746 zl_213_101 (by rw [zm_203]; rfl) (by rw [zm_203]; exact rfl) (by rw [zm_203]; decide) (by unfold zzIn; rw [zm_203]; rfl) (by rw [zm_203]; exact Nat.le_of_ble_eq_true rfl) (Nat.le_of_ble_eq_true rfl) (G_X7_image (by omega) q148.2 q149 hq149) rfl ?_
      show zzEv _ _ _ _ [.int q149.1, .int q148.1] _ _
      by_cases c150 : q148.1 = q149.1
      · rw [if_pos c150] at h
        refine ev_cmp_t (t := 1025) zo_213_749 rfl (zcm_eq c150) ?_
        refine ev_iinc (v := 6) zo_213_1025 rfl (by decide) (zz_set rfl (by decide) (Nat.le_of_ble_eq_true rfl)) rfl ?_
        show zzEv _ _ _ [.ref 2000, .ref 0, .ref 46, .int (l3 + 6)] _ _ _
        refine ev_goto (t := 18) zo_213_1028 rfl ?_
        exact ih (l3 + 6) q149.2 r h
      rw [if_neg c150] at h
      refine ev_cmp_f (t := 1025) zo_213_749 rfl (zcm_neq c150) rfl ?_
      refine ev_iconst (x := 0) zo_213_752 (by decide) rfl ?_
      obtain rfl := Option.some.inj h
      exact ev_retZ zo_213_753 zr_213 (Or.inl rfl)
    rw [if_neg s147] at h
    by_cases s151 : ((J.2 2000 l3.toNatClampNeg) &&& (31 : Int32)) = 21
    · rw [if_pos s151] at h
      refine ev_tableIn (t := 754) zo_213_33 s151 rfl ?_
      refine ev_aload_n zo_213_754 rfl rfl rfl rfl ?_
      obtain ⟨q152, hq152, h⟩ := zz_bd h
      refine ev_cV (as := []) (lsn := [.ref 0]) (by omega) zo_213_755 zl_213_102 (by rw [zm_115]; rfl) (by rw [zm_115]; exact rfl) (by rw [zm_115]; decide) (by unfold zzIn; rw [zm_115]; rfl) (by rw [zm_115]; exact Nat.le_of_ble_eq_true rfl) (Nat.le_of_ble_eq_true rfl) (G_X6_back (by omega) J q152 hq152) rfl ?_
      show zzEv _ _ _ _ [.int q152.1] _ _
      refine ev_aload_n zo_213_758 rfl rfl rfl rfl ?_
      obtain ⟨q153, hq153, h⟩ := zz_bd h
      refine ev_cV (as := []) (lsn := [.ref 46, zzU]) (by omega) zo_213_759 zl_213_105 (by rw [zm_204]; rfl) (by rw [zm_204]; exact rfl) (by rw [zm_204]; decide) (by unfold zzIn; rw [zm_204]; rfl) (by rw [zm_204]; exact Nat.le_of_ble_eq_true rfl) (Nat.le_of_ble_eq_true rfl) (G_X7_back (by omega) q152.2 q153 hq153) rfl ?_
      show zzEv _ _ _ _ [.int q153.1, .int q152.1] _ _
      by_cases c154 : q152.1 = q153.1
      · rw [if_pos c154] at h
        refine ev_cmp_t (t := 1025) zo_213_762 rfl (zcm_eq c154) ?_
        refine ev_iinc (v := 6) zo_213_1025 rfl (by decide) (zz_set rfl (by decide) (Nat.le_of_ble_eq_true rfl)) rfl ?_
        show zzEv _ _ _ [.ref 2000, .ref 0, .ref 46, .int (l3 + 6)] _ _ _
        refine ev_goto (t := 18) zo_213_1028 rfl ?_
        exact ih (l3 + 6) q153.2 r h
      rw [if_neg c154] at h
      refine ev_cmp_f (t := 1025) zo_213_762 rfl (zcm_neq c154) rfl ?_
      refine ev_iconst (x := 0) zo_213_765 (by decide) rfl ?_
      obtain rfl := Option.some.inj h
      exact ev_retZ zo_213_766 zr_213 (Or.inl rfl)
    rw [if_neg s151] at h
    by_cases s155 : ((J.2 2000 l3.toNatClampNeg) &&& (31 : Int32)) = 22
    · rw [if_pos s155] at h
      refine ev_tableIn (t := 767) zo_213_33 s155 rfl ?_
      refine ev_aload_n zo_213_767 rfl rfl rfl rfl ?_
      refine ev_aload_n zo_213_768 rfl rfl rfl rfl ?_
      refine ev_iload_n zo_213_769 rfl rfl rfl ?_
      refine ev_iconst (x := 1) zo_213_770 (by decide) rfl ?_
      refine ev_iadd zo_213_771 rfl ?_
      obtain ⟨c156, h⟩ := zz_chk h
      refine ev_sald zo_213_772 c156 rfl ?_
      obtain ⟨q157, hq157, h⟩ := zz_bd h
      refine ev_cV (as := [.int (J.2 2000 (l3 + (1 : Int32)).toNatClampNeg)]) (lsn := [.ref 0, .int (J.2 2000 (l3 + (1 : Int32)).toNatClampNeg)]) (by omega) zo_213_773 zl_213_106 (by rw [zm_116]; rfl) (by rw [zm_116]; exact rfl) (by rw [zm_116]; decide) (by unfold zzIn; rw [zm_116]; rfl) (by rw [zm_116]; exact Nat.le_of_ble_eq_true rfl) (Nat.le_of_ble_eq_true rfl) (G_X6_count (by omega) (J.2 2000 (l3 + (1 : Int32)).toNatClampNeg) J q157 hq157) rfl ?_
      show zzEv _ _ _ _ [.int q157.1] _ _
      refine ev_aload_n zo_213_776 rfl rfl rfl rfl ?_
      refine ev_aload_n zo_213_777 rfl rfl rfl rfl ?_
      refine ev_iload_n zo_213_778 rfl rfl rfl ?_
      refine ev_iconst (x := 1) zo_213_779 (by decide) rfl ?_
      refine ev_iadd zo_213_780 rfl ?_
      obtain ⟨c158, h⟩ := zz_chk h
      refine ev_sald zo_213_781 c158 rfl ?_
      obtain ⟨q159, hq159, h⟩ := zz_bd h
      refine ev_cV (as := [.int (q157.2.2 2000 (l3 + (1 : Int32)).toNatClampNeg)]) (lsn := [.ref 46, .int (q157.2.2 2000 (l3 + (1 : Int32)).toNatClampNeg), zzU, zzU]) (by omega) zo_213_782 zl_213_109 (by rw [zm_205]; rfl) (by rw [zm_205]; exact rfl) (by rw [zm_205]; decide) (by unfold zzIn; rw [zm_205]; rfl) (by rw [zm_205]; exact Nat.le_of_ble_eq_true rfl) (Nat.le_of_ble_eq_true rfl) (G_X7_count (by omega) (q157.2.2 2000 (l3 + (1 : Int32)).toNatClampNeg) q157.2 q159 hq159) rfl ?_
      show zzEv _ _ _ _ [.int q159.1, .int q157.1] _ _
      by_cases c160 : q157.1 = q159.1
      · rw [if_pos c160] at h
        refine ev_cmp_t (t := 1025) zo_213_785 rfl (zcm_eq c160) ?_
        refine ev_iinc (v := 6) zo_213_1025 rfl (by decide) (zz_set rfl (by decide) (Nat.le_of_ble_eq_true rfl)) rfl ?_
        show zzEv _ _ _ [.ref 2000, .ref 0, .ref 46, .int (l3 + 6)] _ _ _
        refine ev_goto (t := 18) zo_213_1028 rfl ?_
        exact ih (l3 + 6) q159.2 r h
      rw [if_neg c160] at h
      refine ev_cmp_f (t := 1025) zo_213_785 rfl (zcm_neq c160) rfl ?_
      refine ev_iconst (x := 0) zo_213_788 (by decide) rfl ?_
      obtain rfl := Option.some.inj h
      exact ev_retZ zo_213_789 zr_213 (Or.inl rfl)
    rw [if_neg s155] at h
    by_cases s161 : ((J.2 2000 l3.toNatClampNeg) &&& (31 : Int32)) = 23
    · rw [if_pos s161] at h
      refine ev_tableIn (t := 790) zo_213_33 s161 rfl ?_
      refine ev_aload_n zo_213_790 rfl rfl rfl rfl ?_
      refine ev_aload_n zo_213_791 rfl rfl rfl rfl ?_
      refine ev_iload_n zo_213_792 rfl rfl rfl ?_
      refine ev_iconst (x := 1) zo_213_793 (by decide) rfl ?_
      refine ev_iadd zo_213_794 rfl ?_
      obtain ⟨c162, h⟩ := zz_chk h
      refine ev_sald zo_213_795 c162 rfl ?_
      refine ev_aload_n zo_213_796 rfl rfl rfl rfl ?_
      refine ev_iload_n zo_213_797 rfl rfl rfl ?_
      refine ev_iconst (x := 2) zo_213_798 (by decide) rfl ?_
      refine ev_iadd zo_213_799 rfl ?_
      obtain ⟨c163, h⟩ := zz_chk h
      refine ev_sald zo_213_800 c163 rfl ?_
      refine ev_aload_n zo_213_801 rfl rfl rfl rfl ?_
      refine ev_iload_n zo_213_802 rfl rfl rfl ?_
      refine ev_iconst (x := 3) zo_213_803 (by decide) rfl ?_
      refine ev_iadd zo_213_804 rfl ?_
      obtain ⟨c164, h⟩ := zz_chk h
      refine ev_sald zo_213_805 c164 rfl ?_
      obtain ⟨q165, hq165, h⟩ := zz_bd h
      refine ev_cV (as := [.int (J.2 2000 (l3 + (3 : Int32)).toNatClampNeg), .int (J.2 2000 (l3 + (2 : Int32)).toNatClampNeg), .int (J.2 2000 (l3 + (1 : Int32)).toNatClampNeg)]) (lsn := [.ref 0, .int (J.2 2000 (l3 + (1 : Int32)).toNatClampNeg), .int (J.2 2000 (l3 + (2 : Int32)).toNatClampNeg), .int (J.2 2000 (l3 + (3 : Int32)).toNatClampNeg), zzU]) (by omega) zo_213_806 zl_213_110 (by rw [zm_117]; rfl) (by rw [zm_117]; exact rfl) (by rw [zm_117]; decide) (by unfold zzIn; rw [zm_117]; rfl) (by rw [zm_117]; exact Nat.le_of_ble_eq_true rfl) (Nat.le_of_ble_eq_true rfl) (G_X6_sheet (by omega) (J.2 2000 (l3 + (1 : Int32)).toNatClampNeg) (J.2 2000 (l3 + (2 : Int32)).toNatClampNeg) (J.2 2000 (l3 + (3 : Int32)).toNatClampNeg) J q165 hq165) rfl ?_
      show zzEv _ _ _ _ [.int q165.1] _ _
      refine ev_aload_n zo_213_809 rfl rfl rfl rfl ?_
      refine ev_aload_n zo_213_810 rfl rfl rfl rfl ?_
      refine ev_iload_n zo_213_811 rfl rfl rfl ?_
      refine ev_iconst (x := 1) zo_213_812 (by decide) rfl ?_
      refine ev_iadd zo_213_813 rfl ?_
      obtain ⟨c166, h⟩ := zz_chk h
      refine ev_sald zo_213_814 c166 rfl ?_
      refine ev_aload_n zo_213_815 rfl rfl rfl rfl ?_
      refine ev_iload_n zo_213_816 rfl rfl rfl ?_
      refine ev_iconst (x := 2) zo_213_817 (by decide) rfl ?_
      refine ev_iadd zo_213_818 rfl ?_
      obtain ⟨c167, h⟩ := zz_chk h
      refine ev_sald zo_213_819 c167 rfl ?_
      refine ev_aload_n zo_213_820 rfl rfl rfl rfl ?_
      refine ev_iload_n zo_213_821 rfl rfl rfl ?_
      refine ev_iconst (x := 3) zo_213_822 (by decide) rfl ?_
      refine ev_iadd zo_213_823 rfl ?_
      obtain ⟨c168, h⟩ := zz_chk h
      refine ev_sald zo_213_824 c168 rfl ?_
      obtain ⟨q169, hq169, h⟩ := zz_bd h
      refine ev_cV (as := [.int (q165.2.2 2000 (l3 + (3 : Int32)).toNatClampNeg), .int (q165.2.2 2000 (l3 + (2 : Int32)).toNatClampNeg), .int (q165.2.2 2000 (l3 + (1 : Int32)).toNatClampNeg)]) (lsn := [.ref 46, .int (q165.2.2 2000 (l3 + (1 : Int32)).toNatClampNeg), .int (q165.2.2 2000 (l3 + (2 : Int32)).toNatClampNeg), .int (q165.2.2 2000 (l3 + (3 : Int32)).toNatClampNeg), zzU]) (by omega) zo_213_825 zl_213_113 (by rw [zm_207]; rfl) (by rw [zm_207]; exact rfl) (by rw [zm_207]; decide) (by unfold zzIn; rw [zm_207]; rfl) (by rw [zm_207]; exact Nat.le_of_ble_eq_true rfl) (Nat.le_of_ble_eq_true rfl) (G_X7_sheet (by omega) (q165.2.2 2000 (l3 + (1 : Int32)).toNatClampNeg) (q165.2.2 2000 (l3 + (2 : Int32)).toNatClampNeg) (q165.2.2 2000 (l3 + (3 : Int32)).toNatClampNeg) q165.2 q169 hq169) rfl ?_
      show zzEv _ _ _ _ [.int q169.1, .int q165.1] _ _
      by_cases c170 : q165.1 = q169.1
      · rw [if_pos c170] at h
        refine ev_cmp_t (t := 1025) zo_213_828 rfl (zcm_eq c170) ?_
        refine ev_iinc (v := 6) zo_213_1025 rfl (by decide) (zz_set rfl (by decide) (Nat.le_of_ble_eq_true rfl)) rfl ?_
        show zzEv _ _ _ [.ref 2000, .ref 0, .ref 46, .int (l3 + 6)] _ _ _
        refine ev_goto (t := 18) zo_213_1028 rfl ?_
        exact ih (l3 + 6) q169.2 r h
      rw [if_neg c170] at h
      refine ev_cmp_f (t := 1025) zo_213_828 rfl (zcm_neq c170) rfl ?_
      refine ev_iconst (x := 0) zo_213_831 (by decide) rfl ?_
      obtain rfl := Option.some.inj h
      exact ev_retZ zo_213_832 zr_213 (Or.inl rfl)
    rw [if_neg s161] at h
    by_cases s171 : ((J.2 2000 l3.toNatClampNeg) &&& (31 : Int32)) = 24
    · rw [if_pos s171] at h
      refine ev_tableIn (t := 833) zo_213_33 s171 rfl ?_
      refine ev_aload_n zo_213_833 rfl rfl rfl rfl ?_
      refine ev_aload_n zo_213_834 rfl rfl rfl rfl ?_
      refine ev_iload_n zo_213_835 rfl rfl rfl ?_
      refine ev_iconst (x := 1) zo_213_836 (by decide) rfl ?_
      refine ev_iadd zo_213_837 rfl ?_
      obtain ⟨c172, h⟩ := zz_chk h
      refine ev_sald zo_213_838 c172 rfl ?_
      refine ev_aload_n zo_213_839 rfl rfl rfl rfl ?_
      refine ev_iload_n zo_213_840 rfl rfl rfl ?_
      refine ev_iconst (x := 2) zo_213_841 (by decide) rfl ?_
      refine ev_iadd zo_213_842 rfl ?_
      obtain ⟨c173, h⟩ := zz_chk h
      refine ev_sald zo_213_843 c173 rfl ?_
      refine ev_aload_n zo_213_844 rfl rfl rfl rfl ?_
      refine ev_iload_n zo_213_845 rfl rfl rfl ?_
      refine ev_iconst (x := 3) zo_213_846 (by decide) rfl ?_
      refine ev_iadd zo_213_847 rfl ?_
      obtain ⟨c174, h⟩ := zz_chk h
      refine ev_sald zo_213_848 c174 rfl ?_
      obtain ⟨q175, hq175, h⟩ := zz_bd h
      refine ev_cV (as := [.int (J.2 2000 (l3 + (3 : Int32)).toNatClampNeg), .int (J.2 2000 (l3 + (2 : Int32)).toNatClampNeg), .int (J.2 2000 (l3 + (1 : Int32)).toNatClampNeg)]) (lsn := [.ref 0, .int (J.2 2000 (l3 + (1 : Int32)).toNatClampNeg), .int (J.2 2000 (l3 + (2 : Int32)).toNatClampNeg), .int (J.2 2000 (l3 + (3 : Int32)).toNatClampNeg), zzU]) (by omega) zo_213_849 zl_213_114 (by rw [zm_118]; rfl) (by rw [zm_118]; exact rfl) (by rw [zm_118]; decide) (by unfold zzIn; rw [zm_118]; rfl) (by rw [zm_118]; exact Nat.le_of_ble_eq_true rfl) (Nat.le_of_ble_eq_true rfl) (G_X6_cell (by omega) (J.2 2000 (l3 + (1 : Int32)).toNatClampNeg) (J.2 2000 (l3 + (2 : Int32)).toNatClampNeg) (J.2 2000 (l3 + (3 : Int32)).toNatClampNeg) J q175 hq175) rfl ?_
      show zzEv _ _ _ _ [.int q175.1] _ _
      refine ev_aload_n zo_213_852 rfl rfl rfl rfl ?_
      refine ev_aload_n zo_213_853 rfl rfl rfl rfl ?_
      refine ev_iload_n zo_213_854 rfl rfl rfl ?_
      refine ev_iconst (x := 1) zo_213_855 (by decide) rfl ?_
      refine ev_iadd zo_213_856 rfl ?_
      obtain ⟨c176, h⟩ := zz_chk h
      refine ev_sald zo_213_857 c176 rfl ?_
      refine ev_aload_n zo_213_858 rfl rfl rfl rfl ?_
      refine ev_iload_n zo_213_859 rfl rfl rfl ?_
      refine ev_iconst (x := 2) zo_213_860 (by decide) rfl ?_
      refine ev_iadd zo_213_861 rfl ?_
      obtain ⟨c177, h⟩ := zz_chk h
      refine ev_sald zo_213_862 c177 rfl ?_
      refine ev_aload_n zo_213_863 rfl rfl rfl rfl ?_
      refine ev_iload_n zo_213_864 rfl rfl rfl ?_
      refine ev_iconst (x := 3) zo_213_865 (by decide) rfl ?_
      refine ev_iadd zo_213_866 rfl ?_
      obtain ⟨c178, h⟩ := zz_chk h
      refine ev_sald zo_213_867 c178 rfl ?_
      obtain ⟨q179, hq179, h⟩ := zz_bd h
      refine ev_cV (as := [.int (q175.2.2 2000 (l3 + (3 : Int32)).toNatClampNeg), .int (q175.2.2 2000 (l3 + (2 : Int32)).toNatClampNeg), .int (q175.2.2 2000 (l3 + (1 : Int32)).toNatClampNeg)]) (lsn := [.ref 46, .int (q175.2.2 2000 (l3 + (1 : Int32)).toNatClampNeg), .int (q175.2.2 2000 (l3 + (2 : Int32)).toNatClampNeg), .int (q175.2.2 2000 (l3 + (3 : Int32)).toNatClampNeg)]) (by omega) zo_213_868 zl_213_117 (by rw [zm_208]; rfl) (by rw [zm_208]; exact rfl) (by rw [zm_208]; decide) (by unfold zzIn; rw [zm_208]; rfl) (by rw [zm_208]; exact Nat.le_of_ble_eq_true rfl) (Nat.le_of_ble_eq_true rfl) (G_X7_cell (by omega) (q175.2.2 2000 (l3 + (1 : Int32)).toNatClampNeg) (q175.2.2 2000 (l3 + (2 : Int32)).toNatClampNeg) (q175.2.2 2000 (l3 + (3 : Int32)).toNatClampNeg) q175.2 q179 hq179) rfl ?_
      show zzEv _ _ _ _ [.int q179.1, .int q175.1] _ _
      by_cases c180 : q175.1 = q179.1
      · rw [if_pos c180] at h
        refine ev_cmp_t (t := 1025) zo_213_871 rfl (zcm_eq c180) ?_
        refine ev_iinc (v := 6) zo_213_1025 rfl (by decide) (zz_set rfl (by decide) (Nat.le_of_ble_eq_true rfl)) rfl ?_
        show zzEv _ _ _ [.ref 2000, .ref 0, .ref 46, .int (l3 + 6)] _ _ _
        refine ev_goto (t := 18) zo_213_1028 rfl ?_
        exact ih (l3 + 6) q179.2 r h
      rw [if_neg c180] at h
      refine ev_cmp_f (t := 1025) zo_213_871 rfl (zcm_neq c180) rfl ?_
      refine ev_iconst (x := 0) zo_213_874 (by decide) rfl ?_
      obtain rfl := Option.some.inj h
      exact ev_retZ zo_213_875 zr_213 (Or.inl rfl)
    rw [if_neg s171] at h
    by_cases s181 : ((J.2 2000 l3.toNatClampNeg) &&& (31 : Int32)) = 25
    · rw [if_pos s181] at h
      refine ev_tableIn (t := 876) zo_213_33 s181 rfl ?_
      refine ev_aload_n zo_213_876 rfl rfl rfl rfl ?_
      refine ev_aload_n zo_213_877 rfl rfl rfl rfl ?_
      refine ev_iload_n zo_213_878 rfl rfl rfl ?_
      refine ev_iconst (x := 1) zo_213_879 (by decide) rfl ?_
      refine ev_iadd zo_213_880 rfl ?_
      obtain ⟨c182, h⟩ := zz_chk h
      refine ev_sald zo_213_881 c182 rfl ?_
      refine ev_aload_n zo_213_882 rfl rfl rfl rfl ?_
      refine ev_iload_n zo_213_883 rfl rfl rfl ?_
      refine ev_iconst (x := 2) zo_213_884 (by decide) rfl ?_
      refine ev_iadd zo_213_885 rfl ?_
      obtain ⟨c183, h⟩ := zz_chk h
      refine ev_sald zo_213_886 c183 rfl ?_
      refine ev_aload_n zo_213_887 rfl rfl rfl rfl ?_
      refine ev_iload_n zo_213_888 rfl rfl rfl ?_
      refine ev_iconst (x := 3) zo_213_889 (by decide) rfl ?_
      refine ev_iadd zo_213_890 rfl ?_
      obtain ⟨c184, h⟩ := zz_chk h
      refine ev_sald zo_213_891 c184 rfl ?_
      refine ev_aload_n zo_213_892 rfl rfl rfl rfl ?_
      refine ev_iload_n zo_213_893 rfl rfl rfl ?_
      refine ev_iconst (x := 4) zo_213_894 (by decide) rfl ?_
      refine ev_iadd zo_213_895 rfl ?_
      obtain ⟨c185, h⟩ := zz_chk h
      refine ev_sald zo_213_896 c185 rfl ?_
      refine ev_aload_n zo_213_897 rfl rfl rfl rfl ?_
      refine ev_iload_n zo_213_898 rfl rfl rfl ?_
      refine ev_iconst (x := 5) zo_213_899 (by decide) rfl ?_
      refine ev_iadd zo_213_900 rfl ?_
      obtain ⟨c186, h⟩ := zz_chk h
      refine ev_sald zo_213_901 c186 rfl ?_
      obtain ⟨q187, hq187, h⟩ := zz_bd h
      refine ev_cV (as := [.int (J.2 2000 (l3 + (5 : Int32)).toNatClampNeg), .int (J.2 2000 (l3 + (4 : Int32)).toNatClampNeg), .int (J.2 2000 (l3 + (3 : Int32)).toNatClampNeg), .int (J.2 2000 (l3 + (2 : Int32)).toNatClampNeg), .int (J.2 2000 (l3 + (1 : Int32)).toNatClampNeg)]) (lsn := [.ref 0, .int (J.2 2000 (l3 + (1 : Int32)).toNatClampNeg), .int (J.2 2000 (l3 + (2 : Int32)).toNatClampNeg), .int (J.2 2000 (l3 + (3 : Int32)).toNatClampNeg), .int (J.2 2000 (l3 + (4 : Int32)).toNatClampNeg), .int (J.2 2000 (l3 + (5 : Int32)).toNatClampNeg), zzU, zzU]) (by omega) zo_213_902 zl_213_118 (by rw [zm_119]; rfl) (by rw [zm_119]; exact rfl) (by rw [zm_119]; decide) (by unfold zzIn; rw [zm_119]; rfl) (by rw [zm_119]; exact Nat.le_of_ble_eq_true rfl) (Nat.le_of_ble_eq_true rfl) (G_X6_copy (by omega) (J.2 2000 (l3 + (1 : Int32)).toNatClampNeg) (J.2 2000 (l3 + (2 : Int32)).toNatClampNeg) (J.2 2000 (l3 + (3 : Int32)).toNatClampNeg) (J.2 2000 (l3 + (4 : Int32)).toNatClampNeg) (J.2 2000 (l3 + (5 : Int32)).toNatClampNeg) J q187 hq187) rfl ?_
      show zzEv _ _ _ _ [.int q187.1] _ _
      refine ev_aload_n zo_213_905 rfl rfl rfl rfl ?_
      refine ev_aload_n zo_213_906 rfl rfl rfl rfl ?_
      refine ev_iload_n zo_213_907 rfl rfl rfl ?_
      refine ev_iconst (x := 1) zo_213_908 (by decide) rfl ?_
      refine ev_iadd zo_213_909 rfl ?_
      obtain ⟨c188, h⟩ := zz_chk h
      refine ev_sald zo_213_910 c188 rfl ?_
      refine ev_aload_n zo_213_911 rfl rfl rfl rfl ?_
      refine ev_iload_n zo_213_912 rfl rfl rfl ?_
      refine ev_iconst (x := 2) zo_213_913 (by decide) rfl ?_
      refine ev_iadd zo_213_914 rfl ?_
      obtain ⟨c189, h⟩ := zz_chk h
      refine ev_sald zo_213_915 c189 rfl ?_
      refine ev_aload_n zo_213_916 rfl rfl rfl rfl ?_
      refine ev_iload_n zo_213_917 rfl rfl rfl ?_
      refine ev_iconst (x := 3) zo_213_918 (by decide) rfl ?_
      refine ev_iadd zo_213_919 rfl ?_
      obtain ⟨c190, h⟩ := zz_chk h
      refine ev_sald zo_213_920 c190 rfl ?_
      refine ev_aload_n zo_213_921 rfl rfl rfl rfl ?_
      refine ev_iload_n zo_213_922 rfl rfl rfl ?_
      refine ev_iconst (x := 4) zo_213_923 (by decide) rfl ?_
      refine ev_iadd zo_213_924 rfl ?_
      obtain ⟨c191, h⟩ := zz_chk h
      refine ev_sald zo_213_925 c191 rfl ?_
      refine ev_aload_n zo_213_926 rfl rfl rfl rfl ?_
      refine ev_iload_n zo_213_927 rfl rfl rfl ?_
      refine ev_iconst (x := 5) zo_213_928 (by decide) rfl ?_
      refine ev_iadd zo_213_929 rfl ?_
      obtain ⟨c192, h⟩ := zz_chk h
      refine ev_sald zo_213_930 c192 rfl ?_
      obtain ⟨q193, hq193, h⟩ := zz_bd h
      refine ev_cV (as := [.int (q187.2.2 2000 (l3 + (5 : Int32)).toNatClampNeg), .int (q187.2.2 2000 (l3 + (4 : Int32)).toNatClampNeg), .int (q187.2.2 2000 (l3 + (3 : Int32)).toNatClampNeg), .int (q187.2.2 2000 (l3 + (2 : Int32)).toNatClampNeg), .int (q187.2.2 2000 (l3 + (1 : Int32)).toNatClampNeg)]) (lsn := [.ref 46, .int (q187.2.2 2000 (l3 + (1 : Int32)).toNatClampNeg), .int (q187.2.2 2000 (l3 + (2 : Int32)).toNatClampNeg), .int (q187.2.2 2000 (l3 + (3 : Int32)).toNatClampNeg), .int (q187.2.2 2000 (l3 + (4 : Int32)).toNatClampNeg), .int (q187.2.2 2000 (l3 + (5 : Int32)).toNatClampNeg), zzU, zzU, zzU]) (by omega) zo_213_931 zl_213_122 (by rw [zm_209]; rfl) (by rw [zm_209]; exact rfl) (by rw [zm_209]; decide) (by unfold zzIn; rw [zm_209]; rfl) (by rw [zm_209]; exact Nat.le_of_ble_eq_true rfl) (Nat.le_of_ble_eq_true rfl) (G_X7_copy (by omega) (q187.2.2 2000 (l3 + (1 : Int32)).toNatClampNeg) (q187.2.2 2000 (l3 + (2 : Int32)).toNatClampNeg) (q187.2.2 2000 (l3 + (3 : Int32)).toNatClampNeg) (q187.2.2 2000 (l3 + (4 : Int32)).toNatClampNeg) (q187.2.2 2000 (l3 + (5 : Int32)).toNatClampNeg) q187.2 q193 hq193) rfl ?_
      show zzEv _ _ _ _ [.int q193.1, .int q187.1] _ _
      by_cases c194 : q187.1 = q193.1
      · rw [if_pos c194] at h
        refine ev_cmp_t (t := 1025) zo_213_934 rfl (zcm_eq c194) ?_
        refine ev_iinc (v := 6) zo_213_1025 rfl (by decide) (zz_set rfl (by decide) (Nat.le_of_ble_eq_true rfl)) rfl ?_
        show zzEv _ _ _ [.ref 2000, .ref 0, .ref 46, .int (l3 + 6)] _ _ _
        refine ev_goto (t := 18) zo_213_1028 rfl ?_
        exact ih (l3 + 6) q193.2 r h
      rw [if_neg c194] at h
      refine ev_cmp_f (t := 1025) zo_213_934 rfl (zcm_neq c194) rfl ?_
      refine ev_iconst (x := 0) zo_213_937 (by decide) rfl ?_
      obtain rfl := Option.some.inj h
      exact ev_retZ zo_213_938 zr_213 (Or.inl rfl)
    rw [if_neg s181] at h
    by_cases s195 : ((J.2 2000 l3.toNatClampNeg) &&& (31 : Int32)) = 26
    · rw [if_pos s195] at h
      refine ev_tableIn (t := 939) zo_213_33 s195 rfl ?_
      refine ev_aload_n zo_213_939 rfl rfl rfl rfl ?_
      refine ev_aload_n zo_213_940 rfl rfl rfl rfl ?_
      refine ev_iload_n zo_213_941 rfl rfl rfl ?_
      refine ev_iconst (x := 1) zo_213_942 (by decide) rfl ?_
      refine ev_iadd zo_213_943 rfl ?_
      obtain ⟨c196, h⟩ := zz_chk h
      refine ev_sald zo_213_944 c196 rfl ?_
      refine ev_aload_n zo_213_945 rfl rfl rfl rfl ?_
      refine ev_iload_n zo_213_946 rfl rfl rfl ?_
      refine ev_iconst (x := 2) zo_213_947 (by decide) rfl ?_
      refine ev_iadd zo_213_948 rfl ?_
      obtain ⟨c197, h⟩ := zz_chk h
      refine ev_sald zo_213_949 c197 rfl ?_
      refine ev_aload_n zo_213_950 rfl rfl rfl rfl ?_
      refine ev_iload_n zo_213_951 rfl rfl rfl ?_
      refine ev_iconst (x := 3) zo_213_952 (by decide) rfl ?_
      refine ev_iadd zo_213_953 rfl ?_
      obtain ⟨c198, h⟩ := zz_chk h
      refine ev_sald zo_213_954 c198 rfl ?_
      refine ev_aload_n zo_213_955 rfl rfl rfl rfl ?_
      refine ev_iload_n zo_213_956 rfl rfl rfl ?_
      refine ev_iconst (x := 4) zo_213_957 (by decide) rfl ?_
      refine ev_iadd zo_213_958 rfl ?_
      obtain ⟨c199, h⟩ := zz_chk h
      refine ev_sald zo_213_959 c199 rfl ?_
      obtain ⟨q200, hq200, h⟩ := zz_bd h
      refine ev_cV (as := [.int (J.2 2000 (l3 + (4 : Int32)).toNatClampNeg), .int (J.2 2000 (l3 + (3 : Int32)).toNatClampNeg), .int (J.2 2000 (l3 + (2 : Int32)).toNatClampNeg), .int (J.2 2000 (l3 + (1 : Int32)).toNatClampNeg)]) (lsn := [.ref 0, .int (J.2 2000 (l3 + (1 : Int32)).toNatClampNeg), .int (J.2 2000 (l3 + (2 : Int32)).toNatClampNeg), .int (J.2 2000 (l3 + (3 : Int32)).toNatClampNeg), .int (J.2 2000 (l3 + (4 : Int32)).toNatClampNeg), zzU, zzU, zzU, zzU]) (by omega) zo_213_960 zl_213_123 (by rw [zm_120]; rfl) (by rw [zm_120]; exact rfl) (by rw [zm_120]; decide) (by unfold zzIn; rw [zm_120]; rfl) (by rw [zm_120]; exact Nat.le_of_ble_eq_true rfl) (Nat.le_of_ble_eq_true rfl) (G_X6_passengers (by omega) (J.2 2000 (l3 + (1 : Int32)).toNatClampNeg) (J.2 2000 (l3 + (2 : Int32)).toNatClampNeg) (J.2 2000 (l3 + (3 : Int32)).toNatClampNeg) (J.2 2000 (l3 + (4 : Int32)).toNatClampNeg) J q200 hq200) rfl ?_
      show zzEv _ _ _ _ [.int q200.1] _ _
      refine ev_aload_n zo_213_963 rfl rfl rfl rfl ?_
      refine ev_aload_n zo_213_964 rfl rfl rfl rfl ?_
      refine ev_iload_n zo_213_965 rfl rfl rfl ?_
      refine ev_iconst (x := 1) zo_213_966 (by decide) rfl ?_
      refine ev_iadd zo_213_967 rfl ?_
      obtain ⟨c201, h⟩ := zz_chk h
      refine ev_sald zo_213_968 c201 rfl ?_
      refine ev_aload_n zo_213_969 rfl rfl rfl rfl ?_
      refine ev_iload_n zo_213_970 rfl rfl rfl ?_
      refine ev_iconst (x := 2) zo_213_971 (by decide) rfl ?_
      refine ev_iadd zo_213_972 rfl ?_
      obtain ⟨c202, h⟩ := zz_chk h
      refine ev_sald zo_213_973 c202 rfl ?_
      refine ev_aload_n zo_213_974 rfl rfl rfl rfl ?_
      refine ev_iload_n zo_213_975 rfl rfl rfl ?_
      refine ev_iconst (x := 3) zo_213_976 (by decide) rfl ?_
      refine ev_iadd zo_213_977 rfl ?_
      obtain ⟨c203, h⟩ := zz_chk h
      refine ev_sald zo_213_978 c203 rfl ?_
      refine ev_aload_n zo_213_979 rfl rfl rfl rfl ?_
      refine ev_iload_n zo_213_980 rfl rfl rfl ?_
      refine ev_iconst (x := 4) zo_213_981 (by decide) rfl ?_
      refine ev_iadd zo_213_982 rfl ?_
      obtain ⟨c204, h⟩ := zz_chk h
      refine ev_sald zo_213_983 c204 rfl ?_
      obtain ⟨q205, hq205, h⟩ := zz_bd h
      refine ev_cV (as := [.int (q200.2.2 2000 (l3 + (4 : Int32)).toNatClampNeg), .int (q200.2.2 2000 (l3 + (3 : Int32)).toNatClampNeg), .int (q200.2.2 2000 (l3 + (2 : Int32)).toNatClampNeg), .int (q200.2.2 2000 (l3 + (1 : Int32)).toNatClampNeg)]) (lsn := [.ref 46, .int (q200.2.2 2000 (l3 + (1 : Int32)).toNatClampNeg), .int (q200.2.2 2000 (l3 + (2 : Int32)).toNatClampNeg), .int (q200.2.2 2000 (l3 + (3 : Int32)).toNatClampNeg), .int (q200.2.2 2000 (l3 + (4 : Int32)).toNatClampNeg), zzU, zzU, zzU]) (by omega) zo_213_984 zl_213_127 (by rw [zm_210]; rfl) (by rw [zm_210]; exact rfl) (by rw [zm_210]; decide) (by unfold zzIn; rw [zm_210]; rfl) (by rw [zm_210]; exact Nat.le_of_ble_eq_true rfl) (Nat.le_of_ble_eq_true rfl) (G_X7_passengers (by omega) (q200.2.2 2000 (l3 + (1 : Int32)).toNatClampNeg) (q200.2.2 2000 (l3 + (2 : Int32)).toNatClampNeg) (q200.2.2 2000 (l3 + (3 : Int32)).toNatClampNeg) (q200.2.2 2000 (l3 + (4 : Int32)).toNatClampNeg) q200.2 q205 hq205) rfl ?_
      show zzEv _ _ _ _ [.int q205.1, .int q200.1] _ _
      by_cases c206 : q200.1 = q205.1
      · rw [if_pos c206] at h
        refine ev_cmp_t (t := 1025) zo_213_987 rfl (zcm_eq c206) ?_
        refine ev_iinc (v := 6) zo_213_1025 rfl (by decide) (zz_set rfl (by decide) (Nat.le_of_ble_eq_true rfl)) rfl ?_
        show zzEv _ _ _ [.ref 2000, .ref 0, .ref 46, .int (l3 + 6)] _ _ _
        refine ev_goto (t := 18) zo_213_1028 rfl ?_
        exact ih (l3 + 6) q205.2 r h
      rw [if_neg c206] at h
      refine ev_cmp_f (t := 1025) zo_213_987 rfl (zcm_neq c206) rfl ?_
      refine ev_iconst (x := 0) zo_213_990 (by decide) rfl ?_
      obtain rfl := Option.some.inj h
      exact ev_retZ zo_213_991 zr_213 (Or.inl rfl)
    rw [if_neg s195] at h
    by_cases s207 : ((J.2 2000 l3.toNatClampNeg) &&& (31 : Int32)) = 27
    · rw [if_pos s207] at h
      refine ev_tableIn (t := 992) zo_213_33 s207 rfl ?_
      refine ev_aload_n zo_213_992 rfl rfl rfl rfl ?_
      refine ev_aload_n zo_213_993 rfl rfl rfl rfl ?_
      refine ev_iload_n zo_213_994 rfl rfl rfl ?_
      refine ev_iconst (x := 1) zo_213_995 (by decide) rfl ?_
      refine ev_iadd zo_213_996 rfl ?_
      obtain ⟨c208, h⟩ := zz_chk h
      refine ev_sald zo_213_997 c208 rfl ?_
      refine ev_aload_n zo_213_998 rfl rfl rfl rfl ?_
      refine ev_iload_n zo_213_999 rfl rfl rfl ?_
      refine ev_iconst (x := 2) zo_213_1000 (by decide) rfl ?_
      refine ev_iadd zo_213_1001 rfl ?_
      obtain ⟨c209, h⟩ := zz_chk h
      refine ev_sald zo_213_1002 c209 rfl ?_
      obtain ⟨q210, hq210, h⟩ := zz_bd h
      refine ev_cV (as := [.int (J.2 2000 (l3 + (2 : Int32)).toNatClampNeg), .int (J.2 2000 (l3 + (1 : Int32)).toNatClampNeg)]) (lsn := [.ref 0, .int (J.2 2000 (l3 + (1 : Int32)).toNatClampNeg), .int (J.2 2000 (l3 + (2 : Int32)).toNatClampNeg)]) (by omega) zo_213_1003 zl_213_128 (by rw [zm_121]; rfl) (by rw [zm_121]; exact rfl) (by rw [zm_121]; decide) (by unfold zzIn; rw [zm_121]; rfl) (by rw [zm_121]; exact Nat.le_of_ble_eq_true rfl) (Nat.le_of_ble_eq_true rfl) (G_X6_taken (by omega) (J.2 2000 (l3 + (1 : Int32)).toNatClampNeg) (J.2 2000 (l3 + (2 : Int32)).toNatClampNeg) J q210 hq210) rfl ?_
      show zzEv _ _ _ _ [.int q210.1] _ _
      refine ev_aload_n zo_213_1006 rfl rfl rfl rfl ?_
      refine ev_aload_n zo_213_1007 rfl rfl rfl rfl ?_
      refine ev_iload_n zo_213_1008 rfl rfl rfl ?_
      refine ev_iconst (x := 1) zo_213_1009 (by decide) rfl ?_
      refine ev_iadd zo_213_1010 rfl ?_
      obtain ⟨c211, h⟩ := zz_chk h
      refine ev_sald zo_213_1011 c211 rfl ?_
      refine ev_aload_n zo_213_1012 rfl rfl rfl rfl ?_
      refine ev_iload_n zo_213_1013 rfl rfl rfl ?_
      refine ev_iconst (x := 2) zo_213_1014 (by decide) rfl ?_
      refine ev_iadd zo_213_1015 rfl ?_
      obtain ⟨c212, h⟩ := zz_chk h
      refine ev_sald zo_213_1016 c212 rfl ?_
      obtain ⟨q213, hq213, h⟩ := zz_bd h
      refine ev_cV (as := [.int (q210.2.2 2000 (l3 + (2 : Int32)).toNatClampNeg), .int (q210.2.2 2000 (l3 + (1 : Int32)).toNatClampNeg)]) (lsn := [.ref 46, .int (q210.2.2 2000 (l3 + (1 : Int32)).toNatClampNeg), .int (q210.2.2 2000 (l3 + (2 : Int32)).toNatClampNeg), zzU]) (by omega) zo_213_1017 zl_213_131 (by rw [zm_212]; rfl) (by rw [zm_212]; exact rfl) (by rw [zm_212]; decide) (by unfold zzIn; rw [zm_212]; rfl) (by rw [zm_212]; exact Nat.le_of_ble_eq_true rfl) (Nat.le_of_ble_eq_true rfl) (G_X7_taken (by omega) (q210.2.2 2000 (l3 + (1 : Int32)).toNatClampNeg) (q210.2.2 2000 (l3 + (2 : Int32)).toNatClampNeg) q210.2 q213 hq213) rfl ?_
      show zzEv _ _ _ _ [.int q213.1, .int q210.1] _ _
      by_cases c214 : q210.1 = q213.1
      · rw [if_pos c214] at h
        refine ev_cmp_t (t := 1025) zo_213_1020 rfl (zcm_eq c214) ?_
        refine ev_iinc (v := 6) zo_213_1025 rfl (by decide) (zz_set rfl (by decide) (Nat.le_of_ble_eq_true rfl)) rfl ?_
        show zzEv _ _ _ [.ref 2000, .ref 0, .ref 46, .int (l3 + 6)] _ _ _
        refine ev_goto (t := 18) zo_213_1028 rfl ?_
        exact ih (l3 + 6) q213.2 r h
      rw [if_neg c214] at h
      refine ev_cmp_f (t := 1025) zo_213_1020 rfl (zcm_neq c214) rfl ?_
      refine ev_iconst (x := 0) zo_213_1023 (by decide) rfl ?_
      obtain rfl := Option.some.inj h
      exact ev_retZ zo_213_1024 zr_213 (Or.inl rfl)
    rw [if_neg s207] at h
    refine ev_tableOut (t := 1025) zo_213_33 (sw_out 28 rfl fun k hk => ?_) rfl ?_
    · rcases (show k = 0 ∨ k = 1 ∨ k = 2 ∨ k = 3 ∨ k = 4 ∨ k = 5 ∨ k = 6 ∨ k = 7 ∨ k = 8 ∨ k = 9 ∨ k = 10 ∨ k = 11 ∨ k = 12 ∨ k = 13 ∨ k = 14 ∨ k = 15 ∨ k = 16 ∨ k = 17 ∨ k = 18 ∨ k = 19 ∨ k = 20 ∨ k = 21 ∨ k = 22 ∨ k = 23 ∨ k = 24 ∨ k = 25 ∨ k = 26 ∨ k = 27 by omega) with rfl | rfl | rfl | rfl | rfl | rfl | rfl | rfl | rfl | rfl | rfl | rfl | rfl | rfl | rfl | rfl | rfl | rfl | rfl | rfl | rfl | rfl | rfl | rfl | rfl | rfl | rfl | rfl
      · exact sw_ne s3 (by decide)
      · exact sw_ne s13 (by decide)
      · exact sw_ne s21 (by decide)
      · exact sw_ne s29 (by decide)
      · exact sw_ne s37 (by decide)
      · exact sw_ne s43 (by decide)
      · exact sw_ne s49 (by decide)
      · exact sw_ne s53 (by decide)
      · exact sw_ne s59 (by decide)
      · exact sw_ne s65 (by decide)
      · exact sw_ne s73 (by decide)
      · exact sw_ne s81 (by decide)
      · exact sw_ne s87 (by decide)
      · exact sw_ne s93 (by decide)
      · exact sw_ne s101 (by decide)
      · exact sw_ne s109 (by decide)
      · exact sw_ne s117 (by decide)
      · exact sw_ne s125 (by decide)
      · exact sw_ne s131 (by decide)
      · exact sw_ne s137 (by decide)
      · exact sw_ne s147 (by decide)
      · exact sw_ne s151 (by decide)
      · exact sw_ne s155 (by decide)
      · exact sw_ne s161 (by decide)
      · exact sw_ne s171 (by decide)
      · exact sw_ne s181 (by decide)
      · exact sw_ne s195 (by decide)
      · exact sw_ne s207 (by decide)
    refine ev_iinc (v := 6) zo_213_1025 rfl (by decide) (zz_set rfl (by decide) (Nat.le_of_ble_eq_true rfl)) rfl ?_
    show zzEv _ _ _ [.ref 2000, .ref 0, .ref 46, .int (l3 + 6)] _ _ _
    refine ev_goto (t := 18) zo_213_1028 rfl ?_
    exact ih (l3 + 6) J r h
