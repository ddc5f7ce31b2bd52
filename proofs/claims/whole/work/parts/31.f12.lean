/-! the methods as functions, and that they are (written by wip/whole/gen2.py) -/
/-! L_law -/
def F_L_law_18 : Nat → Int32 → zzJ → Option (Int32 × zzJ)
  | 0, _, _ => none
  | n + 1, l3, J => (if ¬ J.1 2000 0 < 0 then (if ((Int32.ofNat (J.1 2000 0).toNatClampNeg) - (6 : Int32)) < l3 then some ((1 : Int32), J) else (if zzIx l3 (J.1 2000 0).toNatClampNeg then (if ((J.2 2000 l3.toNatClampNeg) &&& (31 : Int32)) = 0 then (if zzIx (l3 + (1 : Int32)) (J.1 2000 0).toNatClampNeg then (if zzIx (l3 + (2 : Int32)) (J.1 2000 0).toNatClampNeg then (if zzIx (l3 + (3 : Int32)) (J.1 2000 0).toNatClampNeg then (Option.bind (F_X6_set (J.2 2000 (l3 + (1 : Int32)).toNatClampNeg) (J.2 2000 (l3 + (2 : Int32)).toNatClampNeg) (J.2 2000 (l3 + (3 : Int32)).toNatClampNeg) J) fun q8 => (if zzIx (l3 + (1 : Int32)) (q8.2.1 2000 0).toNatClampNeg then (if zzIx (l3 + (2 : Int32)) (q8.2.1 2000 0).toNatClampNeg then (if zzIx (l3 + (3 : Int32)) (q8.2.1 2000 0).toNatClampNeg then (Option.bind (F_X7_set (q8.2.2 2000 (l3 + (1 : Int32)).toNatClampNeg) (q8.2.2 2000 (l3 + (2 : Int32)).toNatClampNeg) (q8.2.2 2000 (l3 + (3 : Int32)).toNatClampNeg) q8.2) fun q12 => (if q8.1 = q12.1 then F_L_law_18 n (l3 + 6) q12.2 else some ((0 : Int32), q12.2))) else none) else none) else none)) else none) else none) else none) else (if ((J.2 2000 l3.toNatClampNeg) &&& (31 : Int32)) = 1 then (if zzIx (l3 + (1 : Int32)) (J.1 2000 0).toNatClampNeg then (if zzIx (l3 + (2 : Int32)) (J.1 2000 0).toNatClampNeg then (Option.bind (F_X6_passenger (J.2 2000 (l3 + (1 : Int32)).toNatClampNeg) (J.2 2000 (l3 + (2 : Int32)).toNatClampNeg) J) fun q17 => (if zzIx (l3 + (1 : Int32)) (q17.2.1 2000 0).toNatClampNeg then (if zzIx (l3 + (2 : Int32)) (q17.2.1 2000 0).toNatClampNeg then (Option.bind (F_X7_passenger (q17.2.2 2000 (l3 + (1 : Int32)).toNatClampNeg) (q17.2.2 2000 (l3 + (2 : Int32)).toNatClampNeg) q17.2) fun q20 => (if q17.1 = q20.1 then F_L_law_18 n (l3 + 6) q20.2 else some ((0 : Int32), q20.2))) else none) else none)) else none) else none) else (if ((J.2 2000 l3.toNatClampNeg) &&& (31 : Int32)) = 2 then (if zzIx (l3 + (1 : Int32)) (J.1 2000 0).toNatClampNeg then (if zzIx (l3 + (2 : Int32)) (J.1 2000 0).toNatClampNeg then (Option.bind (F_X6_sit (J.2 2000 (l3 + (1 : Int32)).toNatClampNeg) (J.2 2000 (l3 + (2 : Int32)).toNatClampNeg) J) fun q25 => (if zzIx (l3 + (1 : Int32)) (q25.2.1 2000 0).toNatClampNeg then (if zzIx (l3 + (2 : Int32)) (q25.2.1 2000 0).toNatClampNeg then (Option.bind (F_X7_sit (q25.2.2 2000 (l3 + (1 : Int32)).toNatClampNeg) (q25.2.2 2000 (l3 + (2 : Int32)).toNatClampNeg) q25.2) fun q28 => (if q25.1 = q28.1 then F_L_law_18 n (l3 + 6) q28.2 else some ((0 : Int32), q28.2))) else none) else none)) else none) else none) else (if ((J.2 2000 l3.toNatClampNeg) &&& (31 : Int32)) = 3 then (if zzIx (l3 + (1 : Int32)) (J.1 2000 0).toNatClampNeg then (if zzIx (l3 + (2 : Int32)) (J.1 2000 0).toNatClampNeg then (Option.bind (F_X6_told (J.2 2000 (l3 + (1 : Int32)).toNatClampNeg) (J.2 2000 (l3 + (2 : Int32)).toNatClampNeg) J) fun q33 => (if zzIx (l3 + (1 : Int32)) (q33.2.1 2000 0).toNatClampNeg then (if zzIx (l3 + (2 : Int32)) (q33.2.1 2000 0).toNatClampNeg then (Option.bind (F_X7_told (q33.2.2 2000 (l3 + (1 : Int32)).toNatClampNeg) (q33.2.2 2000 (l3 + (2 : Int32)).toNatClampNeg) q33.2) fun q36 => (if q33.1 = q36.1 then F_L_law_18 n (l3 + 6) q36.2 else some ((0 : Int32), q36.2))) else none) else none)) else none) else none) else (if ((J.2 2000 l3.toNatClampNeg) &&& (31 : Int32)) = 4 then (if zzIx (l3 + (1 : Int32)) (J.1 2000 0).toNatClampNeg then (Option.bind (F_X6_who (J.2 2000 (l3 + (1 : Int32)).toNatClampNeg) J) fun q40 => (if zzIx (l3 + (1 : Int32)) (q40.2.1 2000 0).toNatClampNeg then (Option.bind (F_X7_who (q40.2.2 2000 (l3 + (1 : Int32)).toNatClampNeg) q40.2) fun q42 => (if q40.1 = q42.1 then F_L_law_18 n (l3 + 6) q42.2 else some ((0 : Int32), q42.2))) else none)) else none) else (if ((J.2 2000 l3.toNatClampNeg) &&& (31 : Int32)) = 5 then (if zzIx (l3 + (1 : Int32)) (J.1 2000 0).toNatClampNeg then (Option.bind (F_X6_feed (J.2 2000 (l3 + (1 : Int32)).toNatClampNeg) J) fun q46 => (if zzIx (l3 + (1 : Int32)) (q46.2.1 2000 0).toNatClampNeg then (Option.bind (F_X7_feed (q46.2.2 2000 (l3 + (1 : Int32)).toNatClampNeg) q46.2) fun q48 => (if q46.1 = q48.1 then F_L_law_18 n (l3 + 6) q48.2 else some ((0 : Int32), q48.2))) else none)) else none) else (if ((J.2 2000 l3.toNatClampNeg) &&& (31 : Int32)) = 6 then (Option.bind (F_X6_text J) fun q51 => (Option.bind (F_X7_text q51.2) fun q52 => (if q51.1 = q52.1 then F_L_law_18 n (l3 + 6) q52.2 else some ((0 : Int32), q52.2)))) else (if ((J.2 2000 l3.toNatClampNeg) &&& (31 : Int32)) = 7 then (if zzIx (l3 + (1 : Int32)) (J.1 2000 0).toNatClampNeg then (Option.bind (F_X6_force (J.2 2000 (l3 + (1 : Int32)).toNatClampNeg) J) fun q56 => (if zzIx (l3 + (1 : Int32)) (q56.2.1 2000 0).toNatClampNeg then (Option.bind (F_X7_force (q56.2.2 2000 (l3 + (1 : Int32)).toNatClampNeg) q56.2) fun q58 => (if q56.1 = q58.1 then F_L_law_18 n (l3 + 6) q58.2 else some ((0 : Int32), q58.2))) else none)) else none) else (if ((J.2 2000 l3.toNatClampNeg) &&& (31 : Int32)) = 8 then (if zzIx (l3 + (1 : Int32)) (J.1 2000 0).toNatClampNeg then (Option.bind (F_X6_all (J.2 2000 (l3 + (1 : Int32)).toNatClampNeg) J) fun q62 => (if zzIx (l3 + (1 : Int32)) (q62.2.1 2000 0).toNatClampNeg then (Option.bind (F_X7_all (q62.2.2 2000 (l3 + (1 : Int32)).toNatClampNeg) q62.2) fun q64 => (if q62.1 = q64.1 then F_L_law_18 n (l3 + 6) q64.2 else some ((0 : Int32), q64.2))) else none)) else none) else (if ((J.2 2000 l3.toNatClampNeg) &&& (31 : Int32)) = 9 then (if zzIx (l3 + (1 : Int32)) (J.1 2000 0).toNatClampNeg then (if zzIx (l3 + (2 : Int32)) (J.1 2000 0).toNatClampNeg then (Option.bind (F_X6_ride (J.2 2000 (l3 + (1 : Int32)).toNatClampNeg) (J.2 2000 (l3 + (2 : Int32)).toNatClampNeg) J) fun q69 => (if zzIx (l3 + (1 : Int32)) (q69.2.1 2000 0).toNatClampNeg then (if zzIx (l3 + (2 : Int32)) (q69.2.1 2000 0).toNatClampNeg then (Option.bind (F_X7_ride (q69.2.2 2000 (l3 + (1 : Int32)).toNatClampNeg) (q69.2.2 2000 (l3 + (2 : Int32)).toNatClampNeg) q69.2) fun q72 => (if q69.1 = q72.1 then F_L_law_18 n (l3 + 6) q72.2 else some ((0 : Int32), q72.2))) else none) else none)) else none) else none) else (if ((J.2 2000 l3.toNatClampNeg) &&& (31 : Int32)) = 10 then (if zzIx (l3 + (1 : Int32)) (J.1 2000 0).toNatClampNeg then (if zzIx (l3 + (2 : Int32)) (J.1 2000 0).toNatClampNeg then (Option.bind (F_X6_best (J.2 2000 (l3 + (1 : Int32)).toNatClampNeg) (J.2 2000 (l3 + (2 : Int32)).toNatClampNeg) J) fun q77 => (if zzIx (l3 + (1 : Int32)) (q77.2.1 2000 0).toNatClampNeg then (if zzIx (l3 + (2 : Int32)) (q77.2.1 2000 0).toNatClampNeg then (Option.bind (F_X7_best (q77.2.2 2000 (l3 + (1 : Int32)).toNatClampNeg) (q77.2.2 2000 (l3 + (2 : Int32)).toNatClampNeg) q77.2) fun q80 => (if q77.1 = q80.1 then F_L_law_18 n (l3 + 6) q80.2 else some ((0 : Int32), q80.2))) else none) else none)) else none) else none) else (if ((J.2 2000 l3.toNatClampNeg) &&& (31 : Int32)) = 11 then (if zzIx (l3 + (1 : Int32)) (J.1 2000 0).toNatClampNeg then (Option.bind (F_X6_change (J.2 2000 (l3 + (1 : Int32)).toNatClampNeg) J) fun q84 => (if zzIx (l3 + (1 : Int32)) (q84.2.1 2000 0).toNatClampNeg then (Option.bind (F_X7_change (q84.2.2 2000 (l3 + (1 : Int32)).toNatClampNeg) q84.2) fun q86 => (if q84.1 = q86.1 then F_L_law_18 n (l3 + 6) q86.2 else some ((0 : Int32), q86.2))) else none)) else none) else (if ((J.2 2000 l3.toNatClampNeg) &&& (31 : Int32)) = 12 then (if zzIx (l3 + (1 : Int32)) (J.1 2000 0).toNatClampNeg then (Option.bind (F_X6_watch (J.2 2000 (l3 + (1 : Int32)).toNatClampNeg) J) fun q90 => (if zzIx (l3 + (1 : Int32)) (q90.2.1 2000 0).toNatClampNeg then (Option.bind (F_X7_watch (q90.2.2 2000 (l3 + (1 : Int32)).toNatClampNeg) q90.2) fun q92 => (if q90.1 = q92.1 then F_L_law_18 n (l3 + 6) q92.2 else some ((0 : Int32), q92.2))) else none)) else none) else (if ((J.2 2000 l3.toNatClampNeg) &&& (31 : Int32)) = 13 then (if zzIx (l3 + (1 : Int32)) (J.1 2000 0).toNatClampNeg then (if zzIx (l3 + (2 : Int32)) (J.1 2000 0).toNatClampNeg then (Option.bind (F_X6_hat (J.2 2000 (l3 + (1 : Int32)).toNatClampNeg) (J.2 2000 (l3 + (2 : Int32)).toNatClampNeg) J) fun q97 => (if zzIx (l3 + (1 : Int32)) (q97.2.1 2000 0).toNatClampNeg then (if zzIx (l3 + (2 : Int32)) (q97.2.1 2000 0).toNatClampNeg then (Option.bind (F_X7_hat (q97.2.2 2000 (l3 + (1 : Int32)).toNatClampNeg) (q97.2.2 2000 (l3 + (2 : Int32)).toNatClampNeg) q97.2) fun q100 => (if q97.1 = q100.1 then F_L_law_18 n (l3 + 6) q100.2 else some ((0 : Int32), q100.2))) else none) else none)) else none) else none) else (if ((J.2 2000 l3.toNatClampNeg) &&& (31 : Int32)) = 14 then (if zzIx (l3 + (1 : Int32)) (J.1 2000 0).toNatClampNeg then (if zzIx (l3 + (2 : Int32)) (J.1 2000 0).toNatClampNeg then (Option.bind (F_X6_front (J.2 2000 (l3 + (1 : Int32)).toNatClampNeg) (J.2 2000 (l3 + (2 : Int32)).toNatClampNeg) J) fun q105 => (if zzIx (l3 + (1 : Int32)) (q105.2.1 2000 0).toNatClampNeg then (if zzIx (l3 + (2 : Int32)) (q105.2.1 2000 0).toNatClampNeg then (Option.bind (F_X7_front (q105.2.2 2000 (l3 + (1 : Int32)).toNatClampNeg) (q105.2.2 2000 (l3 + (2 : Int32)).toNatClampNeg) q105.2) fun q108 => (if q105.1 = q108.1 then F_L_law_18 n (l3 + 6) q108.2 else some ((0 : Int32), q108.2))) else none) else none)) else none) else none) else (if ((J.2 2000 l3.toNatClampNeg) &&& (31 : Int32)) = 15 then (if zzIx (l3 + (1 : Int32)) (J.1 2000 0).toNatClampNeg then (if zzIx (l3 + (2 : Int32)) (J.1 2000 0).toNatClampNeg then (Option.bind (F_X6_stop (J.2 2000 (l3 + (1 : Int32)).toNatClampNeg) (J.2 2000 (l3 + (2 : Int32)).toNatClampNeg) J) fun q113 => (if zzIx (l3 + (1 : Int32)) (q113.2.1 2000 0).toNatClampNeg then (if zzIx (l3 + (2 : Int32)) (q113.2.1 2000 0).toNatClampNeg then (Option.bind (F_X7_stop (q113.2.2 2000 (l3 + (1 : Int32)).toNatClampNeg) (q113.2.2 2000 (l3 + (2 : Int32)).toNatClampNeg) q113.2) fun q116 => (if q113.1 = q116.1 then F_L_law_18 n (l3 + 6) q116.2 else some ((0 : Int32), q116.2))) else none) else none)) else none) else none) else (if ((J.2 2000 l3.toNatClampNeg) &&& (31 : Int32)) = 16 then (if zzIx (l3 + (1 : Int32)) (J.1 2000 0).toNatClampNeg then (if zzIx (l3 + (2 : Int32)) (J.1 2000 0).toNatClampNeg then (Option.bind (F_X6_tells (J.2 2000 (l3 + (1 : Int32)).toNatClampNeg) (J.2 2000 (l3 + (2 : Int32)).toNatClampNeg) J) fun q121 => (if zzIx (l3 + (1 : Int32)) (q121.2.1 2000 0).toNatClampNeg then (if zzIx (l3 + (2 : Int32)) (q121.2.1 2000 0).toNatClampNeg then (Option.bind (F_X7_tells (q121.2.2 2000 (l3 + (1 : Int32)).toNatClampNeg) (q121.2.2 2000 (l3 + (2 : Int32)).toNatClampNeg) q121.2) fun q124 => (if q121.1 = q124.1 then F_L_law_18 n (l3 + 6) q124.2 else some ((0 : Int32), q124.2))) else none) else none)) else none) else none) else (if ((J.2 2000 l3.toNatClampNeg) &&& (31 : Int32)) = 17 then (if zzIx (l3 + (1 : Int32)) (J.1 2000 0).toNatClampNeg then (Option.bind (F_X6_film (J.2 2000 (l3 + (1 : Int32)).toNatClampNeg) J) fun q128 => (if zzIx (l3 + (1 : Int32)) (q128.2.1 2000 0).toNatClampNeg then (Option.bind (F_X7_film (q128.2.2 2000 (l3 + (1 : Int32)).toNatClampNeg) q128.2) fun q130 => (if q128.1 = q130.1 then F_L_law_18 n (l3 + 6) q130.2 else some ((0 : Int32), q130.2))) else none)) else none) else (if ((J.2 2000 l3.toNatClampNeg) &&& (31 : Int32)) = 18 then (if zzIx (l3 + (1 : Int32)) (J.1 2000 0).toNatClampNeg then (Option.bind (F_X6_drawn (J.2 2000 (l3 + (1 : Int32)).toNatClampNeg) J) fun q134 => (if zzIx (l3 + (1 : Int32)) (q134.2.1 2000 0).toNatClampNeg then (Option.bind (F_X7_drawn (q134.2.2 2000 (l3 + (1 : Int32)).toNatClampNeg) q134.2) fun q136 => (if q134.1 = q136.1 then F_L_law_18 n (l3 + 6) q136.2 else some ((0 : Int32), q136.2))) else none)) else none) else (if ((J.2 2000 l3.toNatClampNeg) &&& (31 : Int32)) = 19 then (if zzIx (l3 + (1 : Int32)) (J.1 2000 0).toNatClampNeg then (if zzIx (l3 + (2 : Int32)) (J.1 2000 0).toNatClampNeg then (if zzIx (l3 + (3 : Int32)) (J.1 2000 0).toNatClampNeg then (Option.bind (F_X6_chance (J.2 2000 (l3 + (1 : Int32)).toNatClampNeg) (J.2 2000 (l3 + (2 : Int32)).toNatClampNeg) (J.2 2000 (l3 + (3 : Int32)).toNatClampNeg) J) fun q142 => (if zzIx (l3 + (1 : Int32)) (q142.2.1 2000 0).toNatClampNeg then (if zzIx (l3 + (2 : Int32)) (q142.2.1 2000 0).toNatClampNeg then (if zzIx (l3 + (3 : Int32)) (q142.2.1 2000 0).toNatClampNeg then (Option.bind (F_X7_chance (q142.2.2 2000 (l3 + (1 : Int32)).toNatClampNeg) (q142.2.2 2000 (l3 + (2 : Int32)).toNatClampNeg) (q142.2.2 2000 (l3 + (3 : Int32)).toNatClampNeg) q142.2) fun q146 => (if (lg_cmp q142.1 q146.1) = (0 : Int32) then F_L_law_18 n (l3 + 6) q146.2 else some ((0 : Int32), q146.2))) else none) else none) else none)) else none) else none) else none) else (if ((J.2 2000 l3.toNatClampNeg) &&& (31 : Int32)) = 20 then (Option.bind (F_X6_image J) fun q149 => (Option.bind (F_X7_image q149.2) fun q150 => (if q149.1 = q150.1 then F_L_law_18 n (l3 + 6) q150.2 else some ((0 : Int32), q150.2)))) else (if ((J.2 2000 l3.toNatClampNeg) &&& (31 : Int32)) = 21 then (Option.bind (F_X6_back J) fun q153 => (Option.bind (F_X7_back q153.2) fun q154 => (if q153.1 = q154.1 then F_L_law_18 n (l3 + 6) q154.2 else some ((0 : Int32), q154.2)))) else (if ((J.2 2000 l3.toNatClampNeg) &&& (31 : Int32)) = 22 then (if zzIx (l3 + (1 : Int32)) (J.1 2000 0).toNatClampNeg then (Option.bind (F_X6_count (J.2 2000 (l3 + (1 : Int32)).toNatClampNeg) J) fun q158 => (if zzIx (l3 + (1 : Int32)) (q158.2.1 2000 0).toNatClampNeg then (Option.bind (F_X7_count (q158.2.2 2000 (l3 + (1 : Int32)).toNatClampNeg) q158.2) fun q160 => (if q158.1 = q160.1 then F_L_law_18 n (l3 + 6) q160.2 else some ((0 : Int32), q160.2))) else none)) else none) else (if ((J.2 2000 l3.toNatClampNeg) &&& (31 : Int32)) = 23 then (if zzIx (l3 + (1 : Int32)) (J.1 2000 0).toNatClampNeg then (if zzIx (l3 + (2 : Int32)) (J.1 2000 0).toNatClampNeg then (if zzIx (l3 + (3 : Int32)) (J.1 2000 0).toNatClampNeg then (Option.bind (F_X6_sheet (J.2 2000 (l3 + (1 : Int32)).toNatClampNeg) (J.2 2000 (l3 + (2 : Int32)).toNatClampNeg) (J.2 2000 (l3 + (3 : Int32)).toNatClampNeg) J) fun q166 => (if zzIx (l3 + (1 : Int32)) (q166.2.1 2000 0).toNatClampNeg then (if zzIx (l3 + (2 : Int32)) (q166.2.1 2000 0).toNatClampNeg then (if zzIx (l3 + (3 : Int32)) (q166.2.1 2000 0).toNatClampNeg then (Option.bind (F_X7_sheet (q166.2.2 2000 (l3 + (1 : Int32)).toNatClampNeg) (q166.2.2 2000 (l3 + (2 : Int32)).toNatClampNeg) (q166.2.2 2000 (l3 + (3 : Int32)).toNatClampNeg) q166.2) fun q170 => (if q166.1 = q170.1 then F_L_law_18 n (l3 + 6) q170.2 else some ((0 : Int32), q170.2))) else none) else none) else none)) else none) else none) else none) else (if ((J.2 2000 l3.toNatClampNeg) &&& (31 : Int32)) = 24 then (if zzIx (l3 + (1 : Int32)) (J.1 2000 0).toNatClampNeg then (if zzIx (l3 + (2 : Int32)) (J.1 2000 0).toNatClampNeg then (if zzIx (l3 + (3 : Int32)) (J.1 2000 0).toNatClampNeg then (Option.bind (F_X6_cell (J.2 2000 (l3 + (1 : Int32)).toNatClampNeg) (J.2 2000 (l3 + (2 : Int32)).toNatClampNeg) (J.2 2000 (l3 + (3 : Int32)).toNatClampNeg) J) fun q176 => (if zzIx (l3 + (1 : Int32)) (q176.2.1 2000 0).toNatClampNeg then (if zzIx (l3 + (2 : Int32)) (q176.2.1 2000 0).toNatClampNeg then (if zzIx (l3 + (3 : Int32)) (q176.2.1 2000 0).toNatClampNeg then (Option.bind (F_X7_cell (q176.2.2 2000 (l3 + (1 : Int32)).toNatClampNeg) (q176.2.2 2000 (l3 + (2 : Int32)).toNatClampNeg) (q176.2.2 2000 (l3 + (3 : Int32)).toNatClampNeg) q176.2) fun q180 => (if q176.1 = q180.1 then F_L_law_18 n (l3 + 6) q180.2 else some ((0 : Int32), q180.2))) else none) else none) else none)) else none) else none) else none) else (if ((J.2 2000 l3.toNatClampNeg) &&& (31 : Int32)) = 25 then (if zzIx (l3 + (1 : Int32)) (J.1 2000 0).toNatClampNeg then (if zzIx (l3 + (2 : Int32)) (J.1 2000 0).toNatClampNeg then (if zzIx (l3 + (3 : Int32)) (J.1 2000 0).toNatClampNeg then (if zzIx (l3 + (4 : Int32)) (J.1 2000 0).toNatClampNeg then (if zzIx (l3 + (5 : Int32)) (J.1 2000 0).toNatClampNeg then (Option.bind (F_X6_copy (J.2 2000 (l3 + (1 : Int32)).toNatClampNeg) (J.2 2000 (l3 + (2 : Int32)).toNatClampNeg) (J.2 2000 (l3 + (3 : Int32)).toNatClampNeg) (J.2 2000 (l3 + (4 : Int32)).toNatClampNeg) (J.2 2000 (l3 + (5 : Int32)).toNatClampNeg) J) fun q188 => (if zzIx (l3 + (1 : Int32)) (q188.2.1 2000 0).toNatClampNeg then (if zzIx (l3 + (2 : Int32)) (q188.2.1 2000 0).toNatClampNeg then (if zzIx (l3 + (3 : Int32)) (q188.2.1 2000 0).toNatClampNeg then (if zzIx (l3 + (4 : Int32)) (q188.2.1 2000 0).toNatClampNeg then (if zzIx (l3 + (5 : Int32)) (q188.2.1 2000 0).toNatClampNeg then (Option.bind (F_X7_copy (q188.2.2 2000 (l3 + (1 : Int32)).toNatClampNeg) (q188.2.2 2000 (l3 + (2 : Int32)).toNatClampNeg) (q188.2.2 2000 (l3 + (3 : Int32)).toNatClampNeg) (q188.2.2 2000 (l3 + (4 : Int32)).toNatClampNeg) (q188.2.2 2000 (l3 + (5 : Int32)).toNatClampNeg) q188.2) fun q194 => (if q188.1 = q194.1 then F_L_law_18 n (l3 + 6) q194.2 else some ((0 : Int32), q194.2))) else none) else none) else none) else none) else none)) else none) else none) else none) else none) else none) else (if ((J.2 2000 l3.toNatClampNeg) &&& (31 : Int32)) = 26 then (if zzIx (l3 + (1 : Int32)) (J.1 2000 0).toNatClampNeg then (if zzIx (l3 + (2 : Int32)) (J.1 2000 0).toNatClampNeg then (if zzIx (l3 + (3 : Int32)) (J.1 2000 0).toNatClampNeg then (if zzIx (l3 + (4 : Int32)) (J.1 2000 0).toNatClampNeg then (Option.bind (F_X6_passengers (J.2 2000 (l3 + (1 : Int32)).toNatClampNeg) (J.2 2000 (l3 + (2 : Int32)).toNatClampNeg) (J.2 2000 (l3 + (3 : Int32)).toNatClampNeg) (J.2 2000 (l3 + (4 : Int32)).toNatClampNeg) J) fun q201 => (if zzIx (l3 + (1 : Int32)) (q201.2.1 2000 0).toNatClampNeg then (if zzIx (l3 + (2 : Int32)) (q201.2.1 2000 0).toNatClampNeg then (if zzIx (l3 + (3 : Int32)) (q201.2.1 2000 0).toNatClampNeg then (if zzIx (l3 + (4 : Int32)) (q201.2.1 2000 0).toNatClampNeg then (Option.bind (F_X7_passengers (q201.2.2 2000 (l3 + (1 : Int32)).toNatClampNeg) (q201.2.2 2000 (l3 + (2 : Int32)).toNatClampNeg) (q201.2.2 2000 (l3 + (3 : Int32)).toNatClampNeg) (q201.2.2 2000 (l3 + (4 : Int32)).toNatClampNeg) q201.2) fun q206 => (if q201.1 = q206.1 then F_L_law_18 n (l3 + 6) q206.2 else some ((0 : Int32), q206.2))) else none) else none) else none) else none)) else none) else none) else none) else none) else (if ((J.2 2000 l3.toNatClampNeg) &&& (31 : Int32)) = 27 then (if zzIx (l3 + (1 : Int32)) (J.1 2000 0).toNatClampNeg then (if zzIx (l3 + (2 : Int32)) (J.1 2000 0).toNatClampNeg then (Option.bind (F_X6_taken (J.2 2000 (l3 + (1 : Int32)).toNatClampNeg) (J.2 2000 (l3 + (2 : Int32)).toNatClampNeg) J) fun q211 => (if zzIx (l3 + (1 : Int32)) (q211.2.1 2000 0).toNatClampNeg then (if zzIx (l3 + (2 : Int32)) (q211.2.1 2000 0).toNatClampNeg then (Option.bind (F_X7_taken (q211.2.2 2000 (l3 + (1 : Int32)).toNatClampNeg) (q211.2.2 2000 (l3 + (2 : Int32)).toNatClampNeg) q211.2) fun q214 => (if q211.1 = q214.1 then F_L_law_18 n (l3 + 6) q214.2 else some ((0 : Int32), q214.2))) else none) else none)) else none) else none) else F_L_law_18 n (l3 + 6) J)))))))))))))))))))))))))))) else none)) else none)
set_option maxRecDepth 100000 in
set_option maxHeartbeats 2000000 in
theorem G_L_law_18 {d : Nat} (hd : 865 ≤ d) : ∀ (n : Nat) (l3 : Int32) (J : zzJ) (r : Int32 × zzJ), F_L_law_18 n l3 J = some r → zzEv d 213 18 [.ref 2000, .ref 0, .ref 46, .int l3] [] (zK J) (some (.int r.1), zK r.2) := by
  intro n
  induction n with
  | zero => intro l3 J r h; simp [F_L_law_18] at h
  | succ n ih =>
    intro l3 J r h
    rw [F_L_law_18] at h
    refine ev_iload_n zo_213_18 rfl rfl rfl ?_
    refine ev_aload_n zo_213_19 rfl rfl rfl rfl ?_
    obtain ⟨c1, h⟩ := zz_chk h
    refine ev_slen zo_213_20 c1 rfl ?_
    refine ev_bipush (x := 6) zo_213_21 (by decide) rfl ?_
    refine ev_isub zo_213_23 rfl ?_
    by_cases c2 : ((Int32.ofNat (J.1 2000 0).toNatClampNeg) - (6 : Int32)) < l3
    · rw [if_pos c2] at h
      refine ev_cmp_t (t := 1031) zo_213_24 rfl (zcm_gt c2) ?_
      refine ev_iconst (x := 1) zo_213_1031 (by decide) rfl ?_
      obtain rfl := Option.some.inj h
      exact ev_retZ zo_213_1032 zr_213 (Or.inr rfl)
    rw [if_neg c2] at h
    refine ev_cmp_f (t := 1031) zo_213_24 rfl (zcm_ngt c2) rfl ?_
    refine ev_aload_n zo_213_27 rfl rfl rfl rfl ?_
    refine ev_iload_n zo_213_28 rfl rfl rfl ?_
    obtain ⟨c3, h⟩ := zz_chk h
    refine ev_sald zo_213_29 c3 rfl ?_
    refine ev_bipush (x := 31) zo_213_30 (by decide) rfl ?_
    refine ev_iand zo_213_32 rfl ?_
    by_cases s4 : ((J.2 2000 l3.toNatClampNeg) &&& (31 : Int32)) = 0
    · rw [if_pos s4] at h
      refine ev_tableIn (t := 160) zo_213_33 s4 rfl ?_
      refine ev_aload_n zo_213_160 rfl rfl rfl rfl ?_
      refine ev_aload_n zo_213_161 rfl rfl rfl rfl ?_
      refine ev_iload_n zo_213_162 rfl rfl rfl ?_
      refine ev_iconst (x := 1) zo_213_163 (by decide) rfl ?_
      refine ev_iadd zo_213_164 rfl ?_
      obtain ⟨c5, h⟩ := zz_chk h
      refine ev_sald zo_213_165 c5 rfl ?_
      refine ev_aload_n zo_213_166 rfl rfl rfl rfl ?_
      refine ev_iload_n zo_213_167 rfl rfl rfl ?_
      refine ev_iconst (x := 2) zo_213_168 (by decide) rfl ?_
      refine ev_iadd zo_213_169 rfl ?_
      obtain ⟨c6, h⟩ := zz_chk h
      refine ev_sald zo_213_170 c6 rfl ?_
      refine ev_aload_n zo_213_171 rfl rfl rfl rfl ?_
      refine ev_iload_n zo_213_172 rfl rfl rfl ?_
      refine ev_iconst (x := 3) zo_213_173 (by decide) rfl ?_
      refine ev_iadd zo_213_174 rfl ?_
      obtain ⟨c7, h⟩ := zz_chk h
      refine ev_sald zo_213_175 c7 rfl ?_
      obtain ⟨q8, hq8, h⟩ := zz_bd h
      refine ev_cV (as := [.int (J.2 2000 (l3 + (3 : Int32)).toNatClampNeg), .int (J.2 2000 (l3 + (2 : Int32)).toNatClampNeg), .int (J.2 2000 (l3 + (1 : Int32)).toNatClampNeg)]) (lsn := [.ref 0, .int (J.2 2000 (l3 + (1 : Int32)).toNatClampNeg), .int (J.2 2000 (l3 + (2 : Int32)).toNatClampNeg), .int (J.2 2000 (l3 + (3 : Int32)).toNatClampNeg)]) (by omega) zo_213_176 zl_213_13 (by rw [zm_82]; rfl) (by rw [zm_82]; exact rfl) (by rw [zm_82]; decide) (by unfold zzIn; rw [zm_82]; rfl) (by rw [zm_82]; exact Nat.le_of_ble_eq_true rfl) (Nat.le_of_ble_eq_true rfl) (G_X6_set (by omega) (J.2 2000 (l3 + (1 : Int32)).toNatClampNeg) (J.2 2000 (l3 + (2 : Int32)).toNatClampNeg) (J.2 2000 (l3 + (3 : Int32)).toNatClampNeg) J q8 hq8) rfl ?_
      show zzEv _ _ _ _ [.int q8.1] _ _
      refine ev_aload_n zo_213_179 rfl rfl rfl rfl ?_
      refine ev_aload_n zo_213_180 rfl rfl rfl rfl ?_
      refine ev_iload_n zo_213_181 rfl rfl rfl ?_
      refine ev_iconst (x := 1) zo_213_182 (by decide) rfl ?_
      refine ev_iadd zo_213_183 rfl ?_
      obtain ⟨c9, h⟩ := zz_chk h
      refine ev_sald zo_213_184 c9 rfl ?_
      refine ev_aload_n zo_213_185 rfl rfl rfl rfl ?_
      refine ev_iload_n zo_213_186 rfl rfl rfl ?_
      refine ev_iconst (x := 2) zo_213_187 (by decide) rfl ?_
      refine ev_iadd zo_213_188 rfl ?_
      obtain ⟨c10, h⟩ := zz_chk h
      refine ev_sald zo_213_189 c10 rfl ?_
      refine ev_aload_n zo_213_190 rfl rfl rfl rfl ?_
      refine ev_iload_n zo_213_191 rfl rfl rfl ?_
      refine ev_iconst (x := 3) zo_213_192 (by decide) rfl ?_
      refine ev_iadd zo_213_193 rfl ?_
      obtain ⟨c11, h⟩ := zz_chk h
      refine ev_sald zo_213_194 c11 rfl ?_
      obtain ⟨q12, hq12, h⟩ := zz_bd h
      refine ev_cV (as := [.int (q8.2.2 2000 (l3 + (3 : Int32)).toNatClampNeg), .int (q8.2.2 2000 (l3 + (2 : Int32)).toNatClampNeg), .int (q8.2.2 2000 (l3 + (1 : Int32)).toNatClampNeg)]) (lsn := [.ref 46, .int (q8.2.2 2000 (l3 + (1 : Int32)).toNatClampNeg), .int (q8.2.2 2000 (l3 + (2 : Int32)).toNatClampNeg), .int (q8.2.2 2000 (l3 + (3 : Int32)).toNatClampNeg), zzU]) (by omega) zo_213_195 zl_213_17 (by rw [zm_143]; rfl) (by rw [zm_143]; exact rfl) (by rw [zm_143]; decide) (by unfold zzIn; rw [zm_143]; rfl) (by rw [zm_143]; exact Nat.le_of_ble_eq_true rfl) (Nat.le_of_ble_eq_true rfl) (G_X7_set (by omega) (q8.2.2 2000 (l3 + (1 : Int32)).toNatClampNeg) (q8.2.2 2000 (l3 + (2 : Int32)).toNatClampNeg) (q8.2.2 2000 (l3 + (3 : Int32)).toNatClampNeg) q8.2 q12 hq12) rfl ?_
      show zzEv _ _ _ _ [.int q12.1, .int q8.1] _ _
      by_cases c13 : q8.1 = q12.1
      · rw [if_pos c13] at h
        refine ev_cmp_t (t := 1025) zo_213_198 rfl (zcm_eq c13) ?_
        refine ev_iinc (v := 6) zo_213_1025 rfl (by decide) (zz_set rfl (by decide) (Nat.le_of_ble_eq_true rfl)) rfl ?_
        show zzEv _ _ _ [.ref 2000, .ref 0, .ref 46, .int (l3 + 6)] _ _ _
        refine ev_goto (t := 18) zo_213_1028 rfl ?_
        exact ih (l3 + 6) q12.2 r h
      rw [if_neg c13] at h
      refine ev_cmp_f (t := 1025) zo_213_198 rfl (zcm_neq c13) rfl ?_
      refine ev_iconst (x := 0) zo_213_201 (by decide) rfl ?_
      obtain rfl := Option.some.inj h
      exact ev_retZ zo_213_202 zr_213 (Or.inl rfl)
    rw [if_neg s4] at h
    by_cases s14 : ((J.2 2000 l3.toNatClampNeg) &&& (31 : Int32)) = 1
    · rw [if_pos s14] at h
      refine ev_tableIn (t := 203) zo_213_33 s14 rfl ?_
      refine ev_aload_n zo_213_203 rfl rfl rfl rfl ?_
      refine ev_aload_n zo_213_204 rfl rfl rfl rfl ?_
      refine ev_iload_n zo_213_205 rfl rfl rfl ?_
      refine ev_iconst (x := 1) zo_213_206 (by decide) rfl ?_
      refine ev_iadd zo_213_207 rfl ?_
      obtain ⟨c15, h⟩ := zz_chk h
      refine ev_sald zo_213_208 c15 rfl ?_
      refine ev_aload_n zo_213_209 rfl rfl rfl rfl ?_
      refine ev_iload_n zo_213_210 rfl rfl rfl ?_
      refine ev_iconst (x := 2) zo_213_211 (by decide) rfl ?_
      refine ev_iadd zo_213_212 rfl ?_
      obtain ⟨c16, h⟩ := zz_chk h
      refine ev_sald zo_213_213 c16 rfl ?_
      obtain ⟨q17, hq17, h⟩ := zz_bd h
      refine ev_cV (as := [.int (J.2 2000 (l3 + (2 : Int32)).toNatClampNeg), .int (J.2 2000 (l3 + (1 : Int32)).toNatClampNeg)]) (lsn := [.ref 0, .int (J.2 2000 (l3 + (1 : Int32)).toNatClampNeg), .int (J.2 2000 (l3 + (2 : Int32)).toNatClampNeg)]) (by omega) zo_213_214 zl_213_18 (by rw [zm_84]; rfl) (by rw [zm_84]; exact rfl) (by rw [zm_84]; decide) (by unfold zzIn; rw [zm_84]; rfl) (by rw [zm_84]; exact Nat.le_of_ble_eq_true rfl) (Nat.le_of_ble_eq_true rfl) (G_X6_passenger (by omega) (J.2 2000 (l3 + (1 : Int32)).toNatClampNeg) (J.2 2000 (l3 + (2 : Int32)).toNatClampNeg) J q17 hq17) rfl ?_
      show zzEv _ _ _ _ [.int q17.1] _ _
      refine ev_aload_n zo_213_217 rfl rfl rfl rfl ?_
      refine ev_aload_n zo_213_218 rfl rfl rfl rfl ?_
      refine ev_iload_n zo_213_219 rfl rfl rfl ?_
      refine ev_iconst (x := 1) zo_213_220 (by decide) rfl ?_
      refine ev_iadd zo_213_221 rfl ?_
      obtain ⟨c18, h⟩ := zz_chk h
      refine ev_sald zo_213_222 c18 rfl ?_
      refine ev_aload_n zo_213_223 rfl rfl rfl rfl ?_
      refine ev_iload_n zo_213_224 rfl rfl rfl ?_
      refine ev_iconst (x := 2) zo_213_225 (by decide) rfl ?_
      refine ev_iadd zo_213_226 rfl ?_
      obtain ⟨c19, h⟩ := zz_chk h
      refine ev_sald zo_213_227 c19 rfl ?_
      obtain ⟨q20, hq20, h⟩ := zz_bd h
      refine ev_cV (as := [.int (q17.2.2 2000 (l3 + (2 : Int32)).toNatClampNeg), .int (q17.2.2 2000 (l3 + (1 : Int32)).toNatClampNeg)]) (lsn := [.ref 46, .int (q17.2.2 2000 (l3 + (1 : Int32)).toNatClampNeg), .int (q17.2.2 2000 (l3 + (2 : Int32)).toNatClampNeg)]) (by omega) zo_213_228 zl_213_22 (by rw [zm_145]; rfl) (by rw [zm_145]; exact rfl) (by rw [zm_145]; decide) (by unfold zzIn; rw [zm_145]; rfl) (by rw [zm_145]; exact Nat.le_of_ble_eq_true rfl) (Nat.le_of_ble_eq_true rfl) (G_X7_passenger (by omega) (q17.2.2 2000 (l3 + (1 : Int32)).toNatClampNeg) (q17.2.2 2000 (l3 + (2 : Int32)).toNatClampNeg) q17.2 q20 hq20) rfl ?_
      show zzEv _ _ _ _ [.int q20.1, .int q17.1] _ _
      by_cases c21 : q17.1 = q20.1
      · rw [if_pos c21] at h
        refine ev_cmp_t (t := 1025) zo_213_231 rfl (zcm_eq c21) ?_
        refine ev_iinc (v := 6) zo_213_1025 rfl (by decide) (zz_set rfl (by decide) (Nat.le_of_ble_eq_true rfl)) rfl ?_
        show zzEv _ _ _ [.ref 2000, .ref 0, .ref 46, .int (l3 + 6)] _ _ _
        refine ev_goto (t := 18) zo_213_1028 rfl ?_
        exact ih (l3 + 6) q20.2 r h
      rw [if_neg c21] at h
      refine ev_cmp_f (t := 1025) zo_213_231 rfl (zcm_neq c21) rfl ?_
      refine ev_iconst (x := 0) zo_213_234 (by decide) rfl ?_
      obtain rfl := Option.some.inj h
      exact ev_retZ zo_213_235 zr_213 (Or.inl rfl)
    rw [if_neg s14] at h
    by_cases s22 : ((J.2 2000 l3.toNatClampNeg) &&& (31 : Int32)) = 2
    · rw [if_pos s22] at h
      refine ev_tableIn (t := 236) zo_213_33 s22 rfl ?_
      refine ev_aload_n zo_213_236 rfl rfl rfl rfl ?_
      refine ev_aload_n zo_213_237 rfl rfl rfl rfl ?_
      refine ev_iload_n zo_213_238 rfl rfl rfl ?_
      refine ev_iconst (x := 1) zo_213_239 (by decide) rfl ?_
      refine ev_iadd zo_213_240 rfl ?_
      obtain ⟨c23, h⟩ := zz_chk h
      refine ev_sald zo_213_241 c23 rfl ?_
      refine ev_aload_n zo_213_242 rfl rfl rfl rfl ?_
      refine ev_iload_n zo_213_243 rfl rfl rfl ?_
      refine ev_iconst (x := 2) zo_213_244 (by decide) rfl ?_
      refine ev_iadd zo_213_245 rfl ?_
      obtain ⟨c24, h⟩ := zz_chk h
      refine ev_sald zo_213_246 c24 rfl ?_
      obtain ⟨q25, hq25, h⟩ := zz_bd h
      refine ev_cV (as := [.int (J.2 2000 (l3 + (2 : Int32)).toNatClampNeg), .int (J.2 2000 (l3 + (1 : Int32)).toNatClampNeg)]) (lsn := [.ref 0, .int (J.2 2000 (l3 + (1 : Int32)).toNatClampNeg), .int (J.2 2000 (l3 + (2 : Int32)).toNatClampNeg), zzU, zzU]) (by omega) zo_213_247 zl_213_23 (by rw [zm_85]; rfl) (by rw [zm_85]; exact rfl) (by rw [zm_85]; decide) (by unfold zzIn; rw [zm_85]; rfl) (by rw [zm_85]; exact Nat.le_of_ble_eq_true rfl) (Nat.le_of_ble_eq_true rfl) (G_X6_sit (by omega) (J.2 2000 (l3 + (1 : Int32)).toNatClampNeg) (J.2 2000 (l3 + (2 : Int32)).toNatClampNeg) J q25 hq25) rfl ?_
      show zzEv _ _ _ _ [.int q25.1] _ _
      refine ev_aload_n zo_213_250 rfl rfl rfl rfl ?_
      refine ev_aload_n zo_213_251 rfl rfl rfl rfl ?_
      refine ev_iload_n zo_213_252 rfl rfl rfl ?_
      refine ev_iconst (x := 1) zo_213_253 (by decide) rfl ?_
      refine ev_iadd zo_213_254 rfl ?_
      obtain ⟨c26, h⟩ := zz_chk h
      refine ev_sald zo_213_255 c26 rfl ?_
      refine ev_aload_n zo_213_256 rfl rfl rfl rfl ?_
      refine ev_iload_n zo_213_257 rfl rfl rfl ?_
      refine ev_iconst (x := 2) zo_213_258 (by decide) rfl ?_
      refine ev_iadd zo_213_259 rfl ?_
      obtain ⟨c27, h⟩ := zz_chk h
      refine ev_sald zo_213_260 c27 rfl ?_
      obtain ⟨q28, hq28, h⟩ := zz_bd h
      refine ev_cV (as := [.int (q25.2.2 2000 (l3 + (2 : Int32)).toNatClampNeg), .int (q25.2.2 2000 (l3 + (1 : Int32)).toNatClampNeg)]) (lsn := [.ref 46, .int (q25.2.2 2000 (l3 + (1 : Int32)).toNatClampNeg), .int (q25.2.2 2000 (l3 + (2 : Int32)).toNatClampNeg), zzU]) (by omega) zo_213_261 zl_213_26 (by rw [zm_147]; rfl) (by rw [zm_147]; exact rfl) (by rw [zm_147]; decide) (by unfold zzIn; rw [zm_147]; rfl) (by rw [zm_147]; exact Nat.le_of_ble_eq_true rfl) (Nat.le_of_ble_eq_true rfl) (G_X7_sit (by omega) (q25.2.2 2000 (l3 + (1 : Int32)).toNatClampNeg) (q25.2.2 2000 (l3 + (2 : Int32)).toNatClampNeg) q25.2 q28 hq28) rfl ?_
      show zzEv _ _ _ _ [.int q28.1, .int q25.1] _ _
      by_cases c29 : q25.1 = q28.1
      · rw [if_pos c29] at h
        refine ev_cmp_t (t := 1025) zo_213_264 rfl (zcm_eq c29) ?_
        refine ev_iinc (v := 6) zo_213_1025 rfl (by decide) (zz_set rfl (by decide) (Nat.le_of_ble_eq_true rfl)) rfl ?_
        show zzEv _ _ _ [.ref 2000, .ref 0, .ref 46, .int (l3 + 6)] _ _ _
        refine ev_goto (t := 18) zo_213_1028 rfl ?_
        exact ih (l3 + 6) q28.2 r h
      rw [if_neg c29] at h
      refine ev_cmp_f (t := 1025) zo_213_264 rfl (zcm_neq c29) rfl ?_
      refine ev_iconst (x := 0) zo_213_267 (by decide) rfl ?_
      obtain rfl := Option.some.inj h
      exact ev_retZ zo_213_268 zr_213 (Or.inl rfl)
    rw [if_neg s22] at h
    by_cases s30 : ((J.2 2000 l3.toNatClampNeg) &&& (31 : Int32)) = 3
    · rw [if_pos s30] at h
      refine ev_tableIn (t := 269) zo_213_33 s30 rfl ?_
      refine ev_aload_n zo_213_269 rfl rfl rfl rfl ?_
      refine ev_aload_n zo_213_270 rfl rfl rfl rfl ?_
      refine ev_iload_n zo_213_271 rfl rfl rfl ?_
      refine ev_iconst (x := 1) zo_213_272 (by decide) rfl ?_
      refine ev_iadd zo_213_273 rfl ?_
      obtain ⟨c31, h⟩ := zz_chk h
      refine ev_sald zo_213_274 c31 rfl ?_
      refine ev_aload_n zo_213_275 rfl rfl rfl rfl ?_
      refine ev_iload_n zo_213_276 rfl rfl rfl ?_
      refine ev_iconst (x := 2) zo_213_277 (by decide) rfl ?_
      refine ev_iadd zo_213_278 rfl ?_
      obtain ⟨c32, h⟩ := zz_chk h
      refine ev_sald zo_213_279 c32 rfl ?_
      obtain ⟨q33, hq33, h⟩ := zz_bd h
      refine ev_cV (as := [.int (J.2 2000 (l3 + (2 : Int32)).toNatClampNeg), .int (J.2 2000 (l3 + (1 : Int32)).toNatClampNeg)]) (lsn := [.ref 0, .int (J.2 2000 (l3 + (1 : Int32)).toNatClampNeg), .int (J.2 2000 (l3 + (2 : Int32)).toNatClampNeg)]) (by omega) zo_213_280 zl_213_27 (by rw [zm_86]; rfl) (by rw [zm_86]; exact rfl) (by rw [zm_86]; decide) (by unfold zzIn; rw [zm_86]; rfl) (by rw [zm_86]; exact Nat.le_of_ble_eq_true rfl) (Nat.le_of_ble_eq_true rfl) (G_X6_told (by omega) (J.2 2000 (l3 + (1 : Int32)).toNatClampNeg) (J.2 2000 (l3 + (2 : Int32)).toNatClampNeg) J q33 hq33) rfl ?_
      show zzEv _ _ _ _ [.int q33.1] _ _
      refine ev_aload_n zo_213_283 rfl rfl rfl rfl ?_
      refine ev_aload_n zo_213_284 rfl rfl rfl rfl ?_
      refine ev_iload_n zo_213_285 rfl rfl rfl ?_
      refine ev_iconst (x := 1) zo_213_286 (by decide) rfl ?_
      refine ev_iadd zo_213_287 rfl ?_
      obtain ⟨c34, h⟩ := zz_chk h
      refine ev_sald zo_213_288 c34 rfl ?_
      refine ev_aload_n zo_213_289 rfl rfl rfl rfl ?_
      refine ev_iload_n zo_213_290 rfl rfl rfl ?_
      refine ev_iconst (x := 2) zo_213_291 (by decide) rfl ?_
      refine ev_iadd zo_213_292 rfl ?_
      obtain ⟨c35, h⟩ := zz_chk h
      refine ev_sald zo_213_293 c35 rfl ?_
      obtain ⟨q36, hq36, h⟩ := zz_bd h
      refine ev_cV (as := [.int (q33.2.2 2000 (l3 + (2 : Int32)).toNatClampNeg), .int (q33.2.2 2000 (l3 + (1 : Int32)).toNatClampNeg)]) (lsn := [.ref 46, .int (q33.2.2 2000 (l3 + (1 : Int32)).toNatClampNeg), .int (q33.2.2 2000 (l3 + (2 : Int32)).toNatClampNeg)]) (by omega) zo_213_294 zl_213_30 (by rw [zm_148]; rfl) (by rw [zm_148]; exact rfl) (by rw [zm_148]; decide) (by unfold zzIn; rw [zm_148]; rfl) (by rw [zm_148]; exact Nat.le_of_ble_eq_true rfl) (Nat.le_of_ble_eq_true rfl) (G_X7_told (by omega) (q33.2.2 2000 (l3 + (1 : Int32)).toNatClampNeg) (q33.2.2 2000 (l3 + (2 : Int32)).toNatClampNeg) q33.2 q36 hq36) rfl ?_
      show zzEv _ _ _ _ [.int q36.1, .int q33.1] _ _
      by_cases c37 : q33.1 = q36.1
      · rw [if_pos c37] at h
        refine ev_cmp_t (t := 1025) zo_213_297 rfl (zcm_eq c37) ?_
        refine ev_iinc (v := 6) zo_213_1025 rfl (by decide) (zz_set rfl (by decide) (Nat.le_of_ble_eq_true rfl)) rfl ?_
        show zzEv _ _ _ [.ref 2000, .ref 0, .ref 46, .int (l3 + 6)] _ _ _
        refine ev_goto (t := 18) zo_213_1028 rfl ?_
        exact ih (l3 + 6) q36.2 r h
      rw [if_neg c37] at h
      refine ev_cmp_f (t := 1025) zo_213_297 rfl (zcm_neq c37) rfl ?_
      refine ev_iconst (x := 0) zo_213_300 (by decide) rfl ?_
      obtain rfl := Option.some.inj h
      exact ev_retZ zo_213_301 zr_213 (Or.inl rfl)
    rw [if_neg s30] at h
    by_cases s38 : ((J.2 2000 l3.toNatClampNeg) &&& (31 : Int32)) = 4
    · rw [if_pos s38] at h
      refine ev_tableIn (t := 302) zo_213_33 s38 rfl ?_
      refine ev_aload_n zo_213_302 rfl rfl rfl rfl ?_
      refine ev_aload_n zo_213_303 rfl rfl rfl rfl ?_
      refine ev_iload_n zo_213_304 rfl rfl rfl ?_
      refine ev_iconst (x := 1) zo_213_305 (by decide) rfl ?_
      refine ev_iadd zo_213_306 rfl ?_
      obtain ⟨c39, h⟩ := zz_chk h
      refine ev_sald zo_213_307 c39 rfl ?_
      obtain ⟨q40, hq40, h⟩ := zz_bd h
      refine ev_cV (as := [.int (J.2 2000 (l3 + (1 : Int32)).toNatClampNeg)]) (lsn := [.ref 0, .int (J.2 2000 (l3 + (1 : Int32)).toNatClampNeg)]) (by omega) zo_213_308 zl_213_31 (by rw [zm_87]; rfl) (by rw [zm_87]; exact rfl) (by rw [zm_87]; decide) (by unfold zzIn; rw [zm_87]; rfl) (by rw [zm_87]; exact Nat.le_of_ble_eq_true rfl) (Nat.le_of_ble_eq_true rfl) (G_X6_who (by omega) (J.2 2000 (l3 + (1 : Int32)).toNatClampNeg) J q40 hq40) rfl ?_
      show zzEv _ _ _ _ [.int q40.1] _ _
      refine ev_aload_n zo_213_311 rfl rfl rfl rfl ?_
      refine ev_aload_n zo_213_312 rfl rfl rfl rfl ?_
      refine ev_iload_n zo_213_313 rfl rfl rfl ?_
      refine ev_iconst (x := 1) zo_213_314 (by decide) rfl ?_
      refine ev_iadd zo_213_315 rfl ?_
      obtain ⟨c41, h⟩ := zz_chk h
      refine ev_sald zo_213_316 c41 rfl ?_
      obtain ⟨q42, hq42, h⟩ := zz_bd h
      refine ev_cV (as := [.int (q40.2.2 2000 (l3 + (1 : Int32)).toNatClampNeg)]) (lsn := [.ref 46, .int (q40.2.2 2000 (l3 + (1 : Int32)).toNatClampNeg)]) (by omega) zo_213_317 zl_213_35 (by rw [zm_149]; rfl) (by rw [zm_149]; exact rfl) (by rw [zm_149]; decide) (by unfold zzIn; rw [zm_149]; rfl) (by rw [zm_149]; exact Nat.le_of_ble_eq_true rfl) (Nat.le_of_ble_eq_true rfl) (G_X7_who (by omega) (q40.2.2 2000 (l3 + (1 : Int32)).toNatClampNeg) q40.2 q42 hq42) rfl ?_
      show zzEv _ _ _ _ [.int q42.1, .int q40.1] _ _
      by_cases c43 : q40.1 = q42.1
      · rw [if_pos c43] at h
        refine ev_cmp_t (t := 1025) zo_213_320 rfl (zcm_eq c43) ?_
        refine ev_iinc (v := 6) zo_213_1025 rfl (by decide) (zz_set rfl (by decide) (Nat.le_of_ble_eq_true rfl)) rfl ?_
        show zzEv _ _ _ [.ref 2000, .ref 0, .ref 46, .int (l3 + 6)] _ _ _
        refine ev_goto (t := 18) zo_213_1028 rfl ?_
        exact ih (l3 + 6) q42.2 r h
      rw [if_neg c43] at h
      refine ev_cmp_f (t := 1025) zo_213_320 rfl (zcm_neq c43) rfl ?_
      refine ev_iconst (x := 0) zo_213_323 (by decide) rfl ?_
      obtain rfl := Option.some.inj h
      exact ev_retZ zo_213_324 zr_213 (Or.inl rfl)
    rw [if_neg s38] at h
    by_cases s44 : ((J.2 2000 l3.toNatClampNeg) &&& (31 : Int32)) = 5
    · rw [if_pos s44] at h
      refine ev_tableIn (t := 325) zo_213_33 s44 rfl ?_
      refine ev_aload_n zo_213_325 rfl rfl rfl rfl ?_
      refine ev_aload_n zo_213_326 rfl rfl rfl rfl ?_
      refine ev_iload_n zo_213_327 rfl rfl rfl ?_
      refine ev_iconst (x := 1) zo_213_328 (by decide) rfl ?_
      refine ev_iadd zo_213_329 rfl ?_
      obtain ⟨c45, h⟩ := zz_chk h
      refine ev_sald zo_213_330 c45 rfl ?_
      obtain ⟨q46, hq46, h⟩ := zz_bd h
      refine ev_cV (as := [.int (J.2 2000 (l3 + (1 : Int32)).toNatClampNeg)]) (lsn := [.ref 0, .int (J.2 2000 (l3 + (1 : Int32)).toNatClampNeg)]) (by omega) zo_213_331 zl_213_36 (by rw [zm_88]; rfl) (by rw [zm_88]; exact rfl) (by rw [zm_88]; decide) (by unfold zzIn; rw [zm_88]; rfl) (by rw [zm_88]; exact Nat.le_of_ble_eq_true rfl) (Nat.le_of_ble_eq_true rfl) (G_X6_feed (by omega) (J.2 2000 (l3 + (1 : Int32)).toNatClampNeg) J q46 hq46) rfl ?_
      show zzEv _ _ _ _ [.int q46.1] _ _
      refine ev_aload_n zo_213_334 rfl rfl rfl rfl ?_
      refine ev_aload_n zo_213_335 rfl rfl rfl rfl ?_
      refine ev_iload_n zo_213_336 rfl rfl rfl ?_
      refine ev_iconst (x := 1) zo_213_337 (by decide) rfl ?_
      refine ev_iadd zo_213_338 rfl ?_
      obtain ⟨c47, h⟩ := zz_chk h
      refine ev_sald zo_213_339 c47 rfl ?_
      obtain ⟨q48, hq48, h⟩ := zz_bd h
      refine ev_cV (as := [.int (q46.2.2 2000 (l3 + (1 : Int32)).toNatClampNeg)]) (lsn := [.ref 46, .int (q46.2.2 2000 (l3 + (1 : Int32)).toNatClampNeg)]) (by omega) zo_213_340 zl_213_39 (by rw [zm_150]; rfl) (by rw [zm_150]; exact rfl) (by rw [zm_150]; decide) (by unfold zzIn; rw [zm_150]; rfl) (by rw [zm_150]; exact Nat.le_of_ble_eq_true rfl) (Nat.le_of_ble_eq_true rfl) (G_X7_feed (by omega) (q46.2.2 2000 (l3 + (1 : Int32)).toNatClampNeg) q46.2 q48 hq48) rfl ?_
      show zzEv _ _ _ _ [.int q48.1, .int q46.1] _ _
      by_cases c49 : q46.1 = q48.1
      · rw [if_pos c49] at h
        refine ev_cmp_t (t := 1025) zo_213_343 rfl (zcm_eq c49) ?_
        refine ev_iinc (v := 6) zo_213_1025 rfl (by decide) (zz_set rfl (by decide) (Nat.le_of_ble_eq_true rfl)) rfl ?_
        show zzEv _ _ _ [.ref 2000, .ref 0, .ref 46, .int (l3 + 6)] _ _ _
        refine ev_goto (t := 18) zo_213_1028 rfl ?_
        exact ih (l3 + 6) q48.2 r h
      rw [if_neg c49] at h
      refine ev_cmp_f (t := 1025) zo_213_343 rfl (zcm_neq c49) rfl ?_
      refine ev_iconst (x := 0) zo_213_346 (by decide) rfl ?_
      obtain rfl := Option.some.inj h
      exact ev_retZ zo_213_347 zr_213 (Or.inl rfl)
    rw [if_neg s44] at h
    by_cases s50 : ((J.2 2000 l3.toNatClampNeg) &&& (31 : Int32)) = 6
    · rw [if_pos s50] at h
      refine ev_tableIn (t := 348) zo_213_33 s50 rfl ?_
      refine ev_aload_n zo_213_348 rfl rfl rfl rfl ?_
      obtain ⟨q51, hq51, h⟩ := zz_bd h
      refine ev_cV (as := []) (lsn := [.ref 0, zzU]) (by omega) zo_213_349 zl_213_40 (by rw [zm_89]; rfl) (by rw [zm_89]; exact rfl) (by rw [zm_89]; decide) (by unfold zzIn; rw [zm_89]; rfl) (by rw [zm_89]; exact Nat.le_of_ble_eq_true rfl) (Nat.le_of_ble_eq_true rfl) (G_X6_text (by omega) J q51 hq51) rfl ?_
      show zzEv _ _ _ _ [.int q51.1] _ _
      refine ev_aload_n zo_213_352 rfl rfl rfl rfl ?_
      obtain ⟨q52, hq52, h⟩ := zz_bd h
      refine ev_cV (as := []) (lsn := [.ref 46, zzU]) (by omega) zo_213_353 zl_213_44 (by rw [zm_167]; rfl) (by rw [zm_167]; exact rfl) (by rw [zm_167]; decide) (by unfold zzIn; rw [zm_167]; rfl) (by rw [zm_167]; exact Nat.le_of_ble_eq_true rfl) (Nat.le_of_ble_eq_true rfl) (G_X7_text (by omega) q51.2 q52 hq52) rfl ?_
      show zzEv _ _ _ _ [.int q52.1, .int q51.1] _ _
      by_cases c53 : q51.1 = q52.1
      · rw [if_pos c53] at h
        refine ev_cmp_t (t := 1025) zo_213_356 rfl (zcm_eq c53) ?_
        refine ev_iinc (v := 6) zo_213_1025 rfl (by decide) (zz_set rfl (by decide) (Nat.le_of_ble_eq_true rfl)) rfl ?_
        show zzEv _ _ _ [.ref 2000, .ref 0, .ref 46, .int (l3 + 6)] _ _ _
        refine ev_goto (t := 18) zo_213_1028 rfl ?_
        exact ih (l3 + 6) q52.2 r h
      rw [if_neg c53] at h
      refine ev_cmp_f (t := 1025) zo_213_356 rfl (zcm_neq c53) rfl ?_
      refine ev_iconst (x := 0) zo_213_359 (by decide) rfl ?_
      obtain rfl := Option.some.inj h
      exact ev_retZ zo_213_360 zr_213 (Or.inl rfl)
    rw [if_neg s50] at h
    by_cases s54 : ((J.2 2000 l3.toNatClampNeg) &&& (31 : Int32)) = 7
    · rw [if_pos s54] at h
      refine ev_tableIn (t := 361) zo_213_33 s54 rfl ?_
      refine ev_aload_n zo_213_361 rfl rfl rfl rfl ?_
      refine ev_aload_n zo_213_362 rfl rfl rfl rfl ?_
      refine ev_iload_n zo_213_363 rfl rfl rfl ?_
      refine ev_iconst (x := 1) zo_213_364 (by decide) rfl ?_
      refine ev_iadd zo_213_365 rfl ?_
      obtain ⟨c55, h⟩ := zz_chk h
      refine ev_sald zo_213_366 c55 rfl ?_
      obtain ⟨q56, hq56, h⟩ := zz_bd h
      refine ev_cV (as := [.int (J.2 2000 (l3 + (1 : Int32)).toNatClampNeg)]) (lsn := [.ref 0, .int (J.2 2000 (l3 + (1 : Int32)).toNatClampNeg), zzU]) (by omega) zo_213_367 zl_213_45 (by rw [zm_90]; rfl) (by rw [zm_90]; exact rfl) (by rw [zm_90]; decide) (by unfold zzIn; rw [zm_90]; rfl) (by rw [zm_90]; exact Nat.le_of_ble_eq_true rfl) (Nat.le_of_ble_eq_true rfl) (G_X6_force (by omega) (J.2 2000 (l3 + (1 : Int32)).toNatClampNeg) J q56 hq56) rfl ?_
      show zzEv _ _ _ _ [.int q56.1] _ _
      refine ev_aload_n zo_213_370 rfl rfl rfl rfl ?_
      refine ev_aload_n zo_213_371 rfl rfl rfl rfl ?_
      refine ev_iload_n zo_213_372 rfl rfl rfl ?_
      refine ev_iconst (x := 1) zo_213_373 (by decide) rfl ?_
      refine ev_iadd zo_213_374 rfl ?_
      obtain ⟨c57, h⟩ := zz_chk h
      refine ev_sald zo_213_375 c57 rfl ?_
      obtain ⟨q58, hq58, h⟩ := zz_bd h
      refine ev_cV (as := [.int (q56.2.2 2000 (l3 + (1 : Int32)).toNatClampNeg)]) (lsn := [.ref 46, .int (q56.2.2 2000 (l3 + (1 : Int32)).toNatClampNeg), zzU]) (by omega) zo_213_376 zl_213_48 (by rw [zm_168]; rfl) (by rw [zm_168]; exact rfl) (by rw [zm_168]; decide) (by unfold zzIn; rw [zm_168]; rfl) (by rw [zm_168]; exact Nat.le_of_ble_eq_true rfl) (Nat.le_of_ble_eq_true rfl) (G_X7_force (by omega) (q56.2.2 2000 (l3 + (1 : Int32)).toNatClampNeg) q56.2 q58 hq58) rfl ?_
      show zzEv _ _ _ _ [.int q58.1, .int q56.1] _ _
      by_cases c59 : q56.1 = q58.1
      · rw [if_pos c59] at h
        refine ev_cmp_t (t := 1025) zo_213_379 rfl (zcm_eq c59) ?_
        refine ev_iinc (v := 6) zo_213_1025 rfl (by decide) (zz_set rfl (by decide) (Nat.le_of_ble_eq_true rfl)) rfl ?_
        show zzEv _ _ _ [.ref 2000, .ref 0, .ref 46, .int (l3 + 6)] _ _ _
        refine ev_goto (t := 18) zo_213_1028 rfl ?_
        exact ih (l3 + 6) q58.2 r h
      rw [if_neg c59] at h
      refine ev_cmp_f (t := 1025) zo_213_379 rfl (zcm_neq c59) rfl ?_
      refine ev_iconst (x := 0) zo_213_382 (by decide) rfl ?_
      obtain rfl := Option.some.inj h
      exact ev_retZ zo_213_383 zr_213 (Or.inl rfl)
    rw [if_neg s54] at h
    by_cases s60 : ((J.2 2000 l3.toNatClampNeg) &&& (31 : Int32)) = 8
    · rw [if_pos s60] at h
      refine ev_tableIn (t := 384) zo_213_33 s60 rfl ?_
      refine ev_aload_n zo_213_384 rfl rfl rfl rfl ?_
      refine ev_aload_n zo_213_385 rfl rfl rfl rfl ?_
      refine ev_iload_n zo_213_386 rfl rfl rfl ?_
      refine ev_iconst (x := 1) zo_213_387 (by decide) rfl ?_
      refine ev_iadd zo_213_388 rfl ?_
      obtain ⟨c61, h⟩ := zz_chk h
      refine ev_sald zo_213_389 c61 rfl ?_
      obtain ⟨q62, hq62, h⟩ := zz_bd h
      refine ev_cV (as := [.int (J.2 2000 (l3 + (1 : Int32)).toNatClampNeg)]) (lsn := [.ref 0, .int (J.2 2000 (l3 + (1 : Int32)).toNatClampNeg)]) (by omega) zo_213_390 zl_213_49 (by rw [zm_91]; rfl) (by rw [zm_91]; exact rfl) (by rw [zm_91]; decide) (by unfold zzIn; rw [zm_91]; rfl) (by rw [zm_91]; exact Nat.le_of_ble_eq_true rfl) (Nat.le_of_ble_eq_true rfl) (G_X6_all (by omega) (J.2 2000 (l3 + (1 : Int32)).toNatClampNeg) J q62 hq62) rfl ?_
      show zzEv _ _ _ _ [.int q62.1] _ _
      refine ev_aload_n zo_213_393 rfl rfl rfl rfl ?_
      refine ev_aload_n zo_213_394 rfl rfl rfl rfl ?_
      refine ev_iload_n zo_213_395 rfl rfl rfl ?_
      refine ev_iconst (x := 1) zo_213_396 (by decide) rfl ?_
      refine ev_iadd zo_213_397 rfl ?_
      obtain ⟨c63, h⟩ := zz_chk h
      refine ev_sald zo_213_398 c63 rfl ?_
      obtain ⟨q64, hq64, h⟩ := zz_bd h
      refine ev_cV (as := [.int (q62.2.2 2000 (l3 + (1 : Int32)).toNatClampNeg)]) (lsn := [.ref 46, .int (q62.2.2 2000 (l3 + (1 : Int32)).toNatClampNeg), zzU, zzU]) (by omega) zo_213_399 zl_213_52 (by rw [zm_180]; rfl) (by rw [zm_180]; exact rfl) (by rw [zm_180]; decide) (by unfold zzIn; rw [zm_180]; rfl) (by rw [zm_180]; exact Nat.le_of_ble_eq_true rfl) (Nat.le_of_ble_eq_true rfl) (G_X7_all (by omega) (q62.2.2 2000 (l3 + (1 : Int32)).toNatClampNeg) q62.2 q64 hq64) rfl ?_
      show zzEv _ _ _ _ [.int q64.1, .int q62.1] _ _
      by_cases c65 : q62.1 = q64.1
      · rw [if_pos c65] at h
        refine ev_cmp_t (t := 1025) zo_213_402 rfl (zcm_eq c65) ?_
        refine ev_iinc (v := 6) zo_213_1025 rfl (by decide) (zz_set rfl (by decide) (Nat.le_of_ble_eq_true rfl)) rfl ?_
        show zzEv _ _ _ [.ref 2000, .ref 0, .ref 46, .int (l3 + 6)] _ _ _
        refine ev_goto (t := 18) zo_213_1028 rfl ?_
        exact ih (l3 + 6) q64.2 r h
      rw [if_neg c65] at h
      refine ev_cmp_f (t := 1025) zo_213_402 rfl (zcm_neq c65) rfl ?_
      refine ev_iconst (x := 0) zo_213_405 (by decide) rfl ?_
      obtain rfl := Option.some.inj h
      exact ev_retZ zo_213_406 zr_213 (Or.inl rfl)
    rw [if_neg s60] at h
    by_cases s66 : ((J.2 2000 l3.toNatClampNeg) &&& (31 : Int32)) = 9
    · rw [if_pos s66] at h
      refine ev_tableIn (t := 407) zo_213_33 s66 rfl ?_
      refine ev_aload_n zo_213_407 rfl rfl rfl rfl ?_
      refine ev_aload_n zo_213_408 rfl rfl rfl rfl ?_
      refine ev_iload_n zo_213_409 rfl rfl rfl ?_
      refine ev_iconst (x := 1) zo_213_410 (by decide) rfl ?_
      refine ev_iadd zo_213_411 rfl ?_
      obtain ⟨c67, h⟩ := zz_chk h
      refine ev_sald zo_213_412 c67 rfl ?_
      refine ev_aload_n zo_213_413 rfl rfl rfl rfl ?_
      refine ev_iload_n zo_213_414 rfl rfl rfl ?_
      refine ev_iconst (x := 2) zo_213_415 (by decide) rfl ?_
      refine ev_iadd zo_213_416 rfl ?_
      obtain ⟨c68, h⟩ := zz_chk h
      refine ev_sald zo_213_417 c68 rfl ?_
      obtain ⟨q69, hq69, h⟩ := zz_bd h
      refine ev_cV (as := [.int (J.2 2000 (l3 + (2 : Int32)).toNatClampNeg), .int (J.2 2000 (l3 + (1 : Int32)).toNatClampNeg)]) (lsn := [.ref 0, .int (J.2 2000 (l3 + (1 : Int32)).toNatClampNeg), .int (J.2 2000 (l3 + (2 : Int32)).toNatClampNeg), zzU, zzU, zzU]) (by omega) zo_213_418 zl_213_53 (by rw [zm_92]; rfl) (by rw [zm_92]; exact rfl) (by rw [zm_92]; decide) (by unfold zzIn; rw [zm_92]; rfl) (by rw [zm_92]; exact Nat.le_of_ble_eq_true rfl) (Nat.le_of_ble_eq_true rfl) (G_X6_ride (by omega) (J.2 2000 (l3 + (1 : Int32)).toNatClampNeg) (J.2 2000 (l3 + (2 : Int32)).toNatClampNeg) J q69 hq69) rfl ?_
      show zzEv _ _ _ _ [.int q69.1] _ _
      refine ev_aload_n zo_213_421 rfl rfl rfl rfl ?_
      refine ev_aload_n zo_213_422 rfl rfl rfl rfl ?_
      refine ev_iload_n zo_213_423 rfl rfl rfl ?_
      refine ev_iconst (x := 1) zo_213_424 (by decide) rfl ?_
      refine ev_iadd zo_213_425 rfl ?_
      obtain ⟨c70, h⟩ := zz_chk h
      refine ev_sald zo_213_426 c70 rfl ?_
      refine ev_aload_n zo_213_427 rfl rfl rfl rfl ?_
      refine ev_iload_n zo_213_428 rfl rfl rfl ?_
      refine ev_iconst (x := 2) zo_213_429 (by decide) rfl ?_
      refine ev_iadd zo_213_430 rfl ?_
      obtain ⟨c71, h⟩ := zz_chk h
      refine ev_sald zo_213_431 c71 rfl ?_
      obtain ⟨q72, hq72, h⟩ := zz_bd h
      refine ev_cV (as := [.int (q69.2.2 2000 (l3 + (2 : Int32)).toNatClampNeg), .int (q69.2.2 2000 (l3 + (1 : Int32)).toNatClampNeg)]) (lsn := [.ref 46, .int (q69.2.2 2000 (l3 + (1 : Int32)).toNatClampNeg), .int (q69.2.2 2000 (l3 + (2 : Int32)).toNatClampNeg), zzU]) (by omega) zo_213_432 zl_213_56 (by rw [zm_182]; rfl) (by rw [zm_182]; exact rfl) (by rw [zm_182]; decide) (by unfold zzIn; rw [zm_182]; rfl) (by rw [zm_182]; exact Nat.le_of_ble_eq_true rfl) (Nat.le_of_ble_eq_true rfl) (G_X7_ride (by omega) (q69.2.2 2000 (l3 + (1 : Int32)).toNatClampNeg) (q69.2.2 2000 (l3 + (2 : Int32)).toNatClampNeg) q69.2 q72 hq72) rfl ?_
      show zzEv _ _ _ _ [.int q72.1, .int q69.1] _ _
      by_cases c73 : q69.1 = q72.1
      · rw [if_pos c73] at h
        refine ev_cmp_t (t := 1025) zo_213_435 rfl (zcm_eq c73) ?_
        refine ev_iinc (v := 6) zo_213_1025 rfl (by decide) (zz_set rfl (by decide) (Nat.le_of_ble_eq_true rfl)) rfl ?_
        show zzEv _ _ _ [.ref 2000, .ref 0, .ref 46, .int (l3 + 6)] _ _ _
        refine ev_goto (t := 18) zo_213_1028 rfl ?_
        exact ih (l3 + 6) q72.2 r h
      rw [if_neg c73] at h
      refine ev_cmp_f (t := 1025) zo_213_435 rfl (zcm_neq c73) rfl ?_
      refine ev_iconst (x := 0) zo_213_438 (by decide) rfl ?_
      obtain rfl := Option.some.inj h
      exact ev_retZ zo_213_439 zr_213 (Or.inl rfl)
    rw [if_neg s66] at h
    by_cases s74 : ((J.2 2000 l3.toNatClampNeg) &&& (31 : Int32)) = 10
    · rw [if_pos s74] at h
      refine ev_tableIn (t := 440) zo_213_33 s74 rfl ?_
      refine ev_aload_n zo_213_440 rfl rfl rfl rfl ?_
      refine ev_aload_n zo_213_441 rfl rfl rfl rfl ?_
      refine ev_iload_n zo_213_442 rfl rfl rfl ?_
      refine ev_iconst (x := 1) zo_213_443 (by decide) rfl ?_
      refine ev_iadd zo_213_444 rfl ?_
      obtain ⟨c75, h⟩ := zz_chk h
      refine ev_sald zo_213_445 c75 rfl ?_
      refine ev_aload_n zo_213_446 rfl rfl rfl rfl ?_
      refine ev_iload_n zo_213_447 rfl rfl rfl ?_
      refine ev_iconst (x := 2) zo_213_448 (by decide) rfl ?_
      refine ev_iadd zo_213_449 rfl ?_
      obtain ⟨c76, h⟩ := zz_chk h
      refine ev_sald zo_213_450 c76 rfl ?_
      obtain ⟨q77, hq77, h⟩ := zz_bd h
      refine ev_cV (as := [.int (J.2 2000 (l3 + (2 : Int32)).toNatClampNeg), .int (J.2 2000 (l3 + (1 : Int32)).toNatClampNeg)]) (lsn := [.ref 0, .int (J.2 2000 (l3 + (1 : Int32)).toNatClampNeg), .int (J.2 2000 (l3 + (2 : Int32)).toNatClampNeg), zzU, zzU, zzU, zzU]) (by omega) zo_213_451 zl_213_57 (by rw [zm_94]; rfl) (by rw [zm_94]; exact rfl) (by rw [zm_94]; decide) (by unfold zzIn; rw [zm_94]; rfl) (by rw [zm_94]; exact Nat.le_of_ble_eq_true rfl) (Nat.le_of_ble_eq_true rfl) (G_X6_best (by omega) (J.2 2000 (l3 + (1 : Int32)).toNatClampNeg) (J.2 2000 (l3 + (2 : Int32)).toNatClampNeg) J q77 hq77) rfl ?_
      show zzEv _ _ _ _ [.int q77.1] _ _
      refine ev_aload_n zo_213_454 rfl rfl rfl rfl ?_
      refine ev_aload_n zo_213_455 rfl rfl rfl rfl ?_
      refine ev_iload_n zo_213_456 rfl rfl rfl ?_
      refine ev_iconst (x := 1) zo_213_457 (by decide) rfl ?_
      refine ev_iadd zo_213_458 rfl ?_
      obtain ⟨c78, h⟩ := zz_chk h
      refine ev_sald zo_213_459 c78 rfl ?_
      refine ev_aload_n zo_213_460 rfl rfl rfl rfl ?_
      refine ev_iload_n zo_213_461 rfl rfl rfl ?_
      refine ev_iconst (x := 2) zo_213_462 (by decide) rfl ?_
      refine ev_iadd zo_213_463 rfl ?_
      obtain ⟨c79, h⟩ := zz_chk h
      refine ev_sald zo_213_464 c79 rfl ?_
      obtain ⟨q80, hq80, h⟩ := zz_bd h
      refine ev_cV (as := [.int (q77.2.2 2000 (l3 + (2 : Int32)).toNatClampNeg), .int (q77.2.2 2000 (l3 + (1 : Int32)).toNatClampNeg)]) (lsn := [.ref 46, .int (q77.2.2 2000 (l3 + (1 : Int32)).toNatClampNeg), .int (q77.2.2 2000 (l3 + (2 : Int32)).toNatClampNeg), zzU, zzU, zzU]) (by omega) zo_213_465 zl_213_60 (by rw [zm_183]; rfl) (by rw [zm_183]; exact rfl) (by rw [zm_183]; decide) (by unfold zzIn; rw [zm_183]; rfl) (by rw [zm_183]; exact Nat.le_of_ble_eq_true rfl) (Nat.le_of_ble_eq_true rfl) (G_X7_best (by omega) (q77.2.2 2000 (l3 + (1 : Int32)).toNatClampNeg) (q77.2.2 2000 (l3 + (2 : Int32)).toNatClampNeg) q77.2 q80 hq80) rfl ?_
      show zzEv _ _ _ _ [.int q80.1, .int q77.1] _ _
      by_cases c81 : q77.1 = q80.1
      · rw [if_pos c81] at h
        refine ev_cmp_t (t := 1025) zo_213_468 rfl (zcm_eq c81) ?_
        refine ev_iinc (v := 6) zo_213_1025 rfl (by decide) (zz_set rfl (by decide) (Nat.le_of_ble_eq_true rfl)) rfl ?_
        show zzEv _ _ _ [.ref 2000, .ref 0, .ref 46, .int (l3 + 6)] _ _ _
        refine ev_goto (t := 18) zo_213_1028 rfl ?_
        exact ih (l3 + 6) q80.2 r h
      rw [if_neg c81] at h
      refine ev_cmp_f (t := 1025) zo_213_468 rfl (zcm_neq c81) rfl ?_
      refine ev_iconst (x := 0) zo_213_471 (by decide) rfl ?_
      obtain rfl := Option.some.inj h
      exact ev_retZ zo_213_472 zr_213 (Or.inl rfl)
    rw [if_neg s74] at h
    by_cases s82 : ((J.2 2000 l3.toNatClampNeg) &&& (31 : Int32)) = 11
    · rw [if_pos s82] at h
      refine ev_tableIn (t := 473) zo_213_33 s82 rfl ?_
      refine ev_aload_n zo_213_473 rfl rfl rfl rfl ?_
      refine ev_aload_n zo_213_474 rfl rfl rfl rfl ?_
      refine ev_iload_n zo_213_475 rfl rfl rfl ?_
      refine ev_iconst (x := 1) zo_213_476 (by decide) rfl ?_
      refine ev_iadd zo_213_477 rfl ?_
      obtain ⟨c83, h⟩ := zz_chk h
      refine ev_sald zo_213_478 c83 rfl ?_
      obtain ⟨q84, hq84, h⟩ := zz_bd h
      refine ev_cV (as := [.int (J.2 2000 (l3 + (1 : Int32)).toNatClampNeg)]) (lsn := [.ref 0, .int (J.2 2000 (l3 + (1 : Int32)).toNatClampNeg), zzU, zzU, zzU, zzU, zzU]) (by omega) zo_213_479 zl_213_61 (by rw [zm_95]; rfl) (by rw [zm_95]; exact rfl) (by rw [zm_95]; decide) (by unfold zzIn; rw [zm_95]; rfl) (by rw [zm_95]; exact Nat.le_of_ble_eq_true rfl) (Nat.le_of_ble_eq_true rfl) (G_X6_change (by omega) (J.2 2000 (l3 + (1 : Int32)).toNatClampNeg) J q84 hq84) rfl ?_
      show zzEv _ _ _ _ [.int q84.1] _ _
      refine ev_aload_n zo_213_482 rfl rfl rfl rfl ?_
      refine ev_aload_n zo_213_483 rfl rfl rfl rfl ?_
      refine ev_iload_n zo_213_484 rfl rfl rfl ?_
      refine ev_iconst (x := 1) zo_213_485 (by decide) rfl ?_
      refine ev_iadd zo_213_486 rfl ?_
      obtain ⟨c85, h⟩ := zz_chk h
      refine ev_sald zo_213_487 c85 rfl ?_
      obtain ⟨q86, hq86, h⟩ := zz_bd h
      refine ev_cV (as := [.int (q84.2.2 2000 (l3 + (1 : Int32)).toNatClampNeg)]) (lsn := [.ref 46, .int (q84.2.2 2000 (l3 + (1 : Int32)).toNatClampNeg), zzU, zzU]) (by omega) zo_213_488 zl_213_64 (by rw [zm_186]; rfl) (by rw [zm_186]; exact rfl) (by rw [zm_186]; decide) (by unfold zzIn; rw [zm_186]; rfl) (by rw [zm_186]; exact Nat.le_of_ble_eq_true rfl) (Nat.le_of_ble_eq_true rfl) (G_X7_change (by omega) (q84.2.2 2000 (l3 + (1 : Int32)).toNatClampNeg) q84.2 q86 hq86) rfl ?_
      show zzEv _ _ _ _ [.int q86.1, .int q84.1] _ _
      by_cases c87 : q84.1 = q86.1
      · rw [if_pos c87] at h
        refine ev_cmp_t (t := 1025) zo_213_491 rfl (zcm_eq c87) ?_
        refine ev_iinc (v := 6) zo_213_1025 rfl (by decide) (zz_set rfl (by decide) (Nat.le_of_ble_eq_true rfl)) rfl ?_
        show zzEv _ _ _ [.ref 2000, .ref 0, .ref 46, .int (l3 + 6)] _ _ _
        refine ev_goto (t := 18) zo_213_1028 rfl ?_
        exact ih (l3 + 6) q86.2 r h
      rw [if_neg c87] at h
      refine ev_cmp_f (t := 1025) zo_213_491 rfl (zcm_neq c87) rfl ?_
      refine ev_iconst (x := 0) zo_213_494 (by decide) rfl ?_
      obtain rfl := Option.some.inj h
      exact ev_retZ zo_213_495 zr_213 (Or.inl rfl)
    rw [if_neg s82] at h
    by_cases s88 : ((J.2 2000 l3.toNatClampNeg) &&& (31 : Int32)) = 12
    · rw [if_pos s88] at h
      refine ev_tableIn (t := 496) zo_213_33 s88 rfl ?_
      refine ev_aload_n zo_213_496 rfl rfl rfl rfl ?_
      refine ev_aload_n zo_213_497 rfl rfl rfl rfl ?_
      refine ev_iload_n zo_213_498 rfl rfl rfl ?_
      refine ev_iconst (x := 1) zo_213_499 (by decide) rfl ?_
      refine ev_iadd zo_213_500 rfl ?_
      obtain ⟨c89, h⟩ := zz_chk h
      refine ev_sald zo_213_501 c89 rfl ?_
      obtain ⟨q90, hq90, h⟩ := zz_bd h
      refine ev_cV (as := [.int (J.2 2000 (l3 + (1 : Int32)).toNatClampNeg)]) (lsn := [.ref 0, .int (J.2 2000 (l3 + (1 : Int32)).toNatClampNeg), zzU, zzU, zzU, zzU, zzU, zzU, zzU]) (by omega) zo_213_502 zl_213_65 (by rw [zm_96]; rfl) (by rw [zm_96]; exact rfl) (by rw [zm_96]; decide) (by unfold zzIn; rw [zm_96]; rfl) (by rw [zm_96]; exact Nat.le_of_ble_eq_true rfl) (Nat.le_of_ble_eq_true rfl) (G_X6_watch (by omega) (J.2 2000 (l3 + (1 : Int32)).toNatClampNeg) J q90 hq90) rfl ?_
      show zzEv _ _ _ _ [.int q90.1] _ _
      refine ev_aload_n zo_213_505 rfl rfl rfl rfl ?_
      refine ev_aload_n zo_213_506 rfl rfl rfl rfl ?_
      refine ev_iload_n zo_213_507 rfl rfl rfl ?_
      refine ev_iconst (x := 1) zo_213_508 (by decide) rfl ?_
      refine ev_iadd zo_213_509 rfl ?_
      obtain ⟨c91, h⟩ := zz_chk h
      refine ev_sald zo_213_510 c91 rfl ?_
      obtain ⟨q92, hq92, h⟩ := zz_bd h
      refine ev_cV (as := [.int (q90.2.2 2000 (l3 + (1 : Int32)).toNatClampNeg)]) (lsn := [.ref 46, .int (q90.2.2 2000 (l3 + (1 : Int32)).toNatClampNeg), zzU, zzU, zzU, zzU, zzU, zzU]) (by omega) zo_213_511 zl_213_68 (by rw [zm_188]; rfl) (by rw [zm_188]; exact rfl) (by rw [zm_188]; decide) (by unfold zzIn; rw [zm_188]; rfl) (by rw [zm_188]; exact Nat.le_of_ble_eq_true rfl) (Nat.le_of_ble_eq_true rfl) (G_X7_watch (by omega) (q90.2.2 2000 (l3 + (1 : Int32)).toNatClampNeg) q90.2 q92 hq92) rfl ?_
      show zzEv _ _ _ _ [.int q92.1, .int q90.1] _ _
      by_cases c93 : q90.1 = q92.1
      · rw [if_pos c93] at h
        refine ev_cmp_t (t := 1025) zo_213_514 rfl (zcm_eq c93) ?_
        refine ev_iinc (v := 6) zo_213_1025 rfl (by decide) (zz_set rfl (by decide) (Nat.le_of_ble_eq_true rfl)) rfl ?_
        show zzEv _ _ _ [.ref 2000, .ref 0, .ref 46, .int (l3 + 6)] _ _ _
        refine ev_goto (t := 18) zo_213_1028 rfl ?_
        exact ih (l3 + 6) q92.2 r h
      rw [if_neg c93] at h
      refine ev_cmp_f (t := 1025) zo_213_514 rfl (zcm_neq c93) rfl ?_
      refine ev_iconst (x := 0) zo_213_517 (by decide) rfl ?_
      obtain rfl := Option.some.inj h
      exact ev_retZ zo_213_518 zr_213 (Or.inl rfl)
    rw [if_neg s88] at h
    by_cases s94 : ((J.2 2000 l3.toNatClampNeg) &&& (31 : Int32)) = 13
    · rw [if_pos s94] at h
      refine ev_tableIn (t := 519) zo_213_33 s94 rfl ?_
      refine ev_aload_n zo_213_519 rfl rfl rfl rfl ?_
      refine ev_aload_n zo_213_520 rfl rfl rfl rfl ?_
      refine ev_iload_n zo_213_521 rfl rfl rfl ?_
      refine ev_iconst (x := 1) zo_213_522 (by decide) rfl ?_
      refine ev_iadd zo_213_523 rfl ?_
      obtain ⟨c95, h⟩ := zz_chk h
      refine ev_sald zo_213_524 c95 rfl ?_
      refine ev_aload_n zo_213_525 rfl rfl rfl rfl ?_
      refine ev_iload_n zo_213_526 rfl rfl rfl ?_
      refine ev_iconst (x := 2) zo_213_527 (by decide) rfl ?_
      refine ev_iadd zo_213_528 rfl ?_
      obtain ⟨c96, h⟩ := zz_chk h
      refine ev_sald zo_213_529 c96 rfl ?_
      obtain ⟨q97, hq97, h⟩ := zz_bd h
      refine ev_cV (as := [.int (J.2 2000 (l3 + (2 : Int32)).toNatClampNeg), .int (J.2 2000 (l3 + (1 : Int32)).toNatClampNeg)]) (lsn := [.ref 0, .int (J.2 2000 (l3 + (1 : Int32)).toNatClampNeg), .int (J.2 2000 (l3 + (2 : Int32)).toNatClampNeg), zzU]) (by omega) zo_213_530 zl_213_69 (by rw [zm_97]; rfl) (by rw [zm_97]; exact rfl) (by rw [zm_97]; decide) (by unfold zzIn; rw [zm_97]; rfl) (by rw [zm_97]; exact Nat.le_of_ble_eq_true rfl) (Nat.le_of_ble_eq_true rfl) (G_X6_hat (by omega) (J.2 2000 (l3 + (1 : Int32)).toNatClampNeg) (J.2 2000 (l3 + (2 : Int32)).toNatClampNeg) J q97 hq97) rfl ?_
      show zzEv _ _ _ _ [.int q97.1] _ _
      refine ev_aload_n zo_213_533 rfl rfl rfl rfl ?_
      refine ev_aload_n zo_213_534 rfl rfl rfl rfl ?_
      refine ev_iload_n zo_213_535 rfl rfl rfl ?_
      refine ev_iconst (x := 1) zo_213_536 (by decide) rfl ?_
      refine ev_iadd zo_213_537 rfl ?_
      obtain ⟨c98, h⟩ := zz_chk h
      refine ev_sald zo_213_538 c98 rfl ?_
      refine ev_aload_n zo_213_539 rfl rfl rfl rfl ?_
      refine ev_iload_n zo_213_540 rfl rfl rfl ?_
      refine ev_iconst (x := 2) zo_213_541 (by decide) rfl ?_
      refine ev_iadd zo_213_542 rfl ?_
      obtain ⟨c99, h⟩ := zz_chk h
      refine ev_sald zo_213_543 c99 rfl ?_
      obtain ⟨q100, hq100, h⟩ := zz_bd h
      refine ev_cV (as := [.int (q97.2.2 2000 (l3 + (2 : Int32)).toNatClampNeg), .int (q97.2.2 2000 (l3 + (1 : Int32)).toNatClampNeg)]) (lsn := [.ref 46, .int (q97.2.2 2000 (l3 + (1 : Int32)).toNatClampNeg), .int (q97.2.2 2000 (l3 + (2 : Int32)).toNatClampNeg), zzU]) (by omega) zo_213_544 zl_213_72 (by rw [zm_193]; rfl) (by rw [zm_193]; exact rfl) (by rw [zm_193]; decide) (by unfold zzIn; rw [zm_193]; rfl) (by rw [zm_193]; exact Nat.le_of_ble_eq_true rfl) (Nat.le_of_ble_eq_true rfl) (G_X7_hat (by omega) (q97.2.2 2000 (l3 + (1 : Int32)).toNatClampNeg) (q97.2.2 2000 (l3 + (2 : Int32)).toNatClampNeg) q97.2 q100 hq100) rfl ?_
      show zzEv _ _ _ _ [.int q100.1, .int q97.1] _ _
      by_cases c101 : q97.1 = q100.1
      · rw [if_pos c101] at h
        refine ev_cmp_t (t := 1025) zo_213_547 rfl (zcm_eq c101) ?_
        refine ev_iinc (v := 6) zo_213_1025 rfl (by decide) (zz_set rfl (by decide) (Nat.le_of_ble_eq_true rfl)) rfl ?_
        show zzEv _ _ _ [.ref 2000, .ref 0, .ref 46, .int (l3 + 6)] _ _ _
        refine ev_goto (t := 18) zo_213_1028 rfl ?_
        exact ih (l3 + 6) q100.2 r h
      rw [if_neg c101] at h
      refine ev_cmp_f (t := 1025) zo_213_547 rfl (zcm_neq c101) rfl ?_
      refine ev_iconst (x := 0) zo_213_550 (by decide) rfl ?_
      obtain rfl := Option.some.inj h
      exact ev_retZ zo_213_551 zr_213 (Or.inl rfl)
    rw [if_neg s94] at h
    by_cases s102 : ((J.2 2000 l3.toNatClampNeg) &&& (31 : Int32)) = 14
    · rw [if_pos s102] at h
      refine ev_tableIn (t := 552) zo_213_33 s102 rfl ?_
      refine ev_aload_n zo_213_552 rfl rfl rfl rfl ?_
      refine ev_aload_n zo_213_553 rfl rfl rfl rfl ?_
      refine ev_iload_n zo_213_554 rfl rfl rfl ?_
      refine ev_iconst (x := 1) zo_213_555 (by decide) rfl ?_
      refine ev_iadd zo_213_556 rfl ?_
      obtain ⟨c103, h⟩ := zz_chk h
      refine ev_sald zo_213_557 c103 rfl ?_
      refine ev_aload_n zo_213_558 rfl rfl rfl rfl ?_
      refine ev_iload_n zo_213_559 rfl rfl rfl ?_
      refine ev_iconst (x := 2) zo_213_560 (by decide) rfl ?_
      refine ev_iadd zo_213_561 rfl ?_
      obtain ⟨c104, h⟩ := zz_chk h
      refine ev_sald zo_213_562 c104 rfl ?_
      obtain ⟨q105, hq105, h⟩ := zz_bd h
      refine ev_cV (as := [.int (J.2 2000 (l3 + (2 : Int32)).toNatClampNeg), .int (J.2 2000 (l3 + (1 : Int32)).toNatClampNeg)]) (lsn := [.ref 0, .int (J.2 2000 (l3 + (1 : Int32)).toNatClampNeg), .int (J.2 2000 (l3 + (2 : Int32)).toNatClampNeg), zzU, zzU, zzU, zzU, zzU]) (by omega) zo_213_563 zl_213_73 (by rw [zm_98]; rfl) (by rw [zm_98]; exact rfl) (by rw [zm_98]; decide) (by unfold zzIn; rw [zm_98]; rfl) (by rw [zm_98]; exact Nat.le_of_ble_eq_true rfl) (Nat.le_of_ble_eq_true rfl) (G_X6_front (by omega) (J.2 2000 (l3 + (1 : Int32)).toNatClampNeg) (J.2 2000 (l3 + (2 : Int32)).toNatClampNeg) J q105 hq105) rfl ?_
      show zzEv _ _ _ _ [.int q105.1] _ _
      refine ev_aload_n zo_213_566 rfl rfl rfl rfl ?_
      refine ev_aload_n zo_213_567 rfl rfl rfl rfl ?_
      refine ev_iload_n zo_213_568 rfl rfl rfl ?_
      refine ev_iconst (x := 1) zo_213_569 (by decide) rfl ?_
      refine ev_iadd zo_213_570 rfl ?_
      obtain ⟨c106, h⟩ := zz_chk h
      refine ev_sald zo_213_571 c106 rfl ?_
      refine ev_aload_n zo_213_572 rfl rfl rfl rfl ?_
      refine ev_iload_n zo_213_573 rfl rfl rfl ?_
      refine ev_iconst (x := 2) zo_213_574 (by decide) rfl ?_
      refine ev_iadd zo_213_575 rfl ?_
      obtain ⟨c107, h⟩ := zz_chk h
      refine ev_sald zo_213_576 c107 rfl ?_
      obtain ⟨q108, hq108, h⟩ := zz_bd h
      refine ev_cV (as := [.int (q105.2.2 2000 (l3 + (2 : Int32)).toNatClampNeg), .int (q105.2.2 2000 (l3 + (1 : Int32)).toNatClampNeg)]) (lsn := [.ref 46, .int (q105.2.2 2000 (l3 + (1 : Int32)).toNatClampNeg), .int (q105.2.2 2000 (l3 + (2 : Int32)).toNatClampNeg), zzU, zzU, zzU]) (by omega) zo_213_577 zl_213_76 (by rw [zm_194]; rfl) (by rw [zm_194]; exact rfl) (by rw [zm_194]; decide) (by unfold zzIn; rw [zm_194]; rfl) (by rw [zm_194]; exact Nat.le_of_ble_eq_true rfl) (Nat.le_of_ble_eq_true rfl) (G_X7_front (by omega) (q105.2.2 2000 (l3 + (1 : Int32)).toNatClampNeg) (q105.2.2 2000 (l3 + (2 : Int32)).toNatClampNeg) q105.2 q108 hq108) rfl ?_
      show zzEv _ _ _ _ [.int q108.1, .int q105.1] _ _
      by_cases c109 : q105.1 = q108.1
      · rw [if_pos c109] at h
        refine ev_cmp_t (t := 1025) zo_213_580 rfl (zcm_eq c109) ?_
        refine ev_iinc (v := 6) zo_213_1025 rfl (by decide) (zz_set rfl (by decide) (Nat.le_of_ble_eq_true rfl)) rfl ?_
        show zzEv _ _ _ [.ref 2000, .ref 0, .ref 46, .int (l3 + 6)] _ _ _
        refine ev_goto (t := 18) zo_213_1028 rfl ?_
        exact ih (l3 + 6) q108.2 r h
      rw [if_neg c109] at h
      refine ev_cmp_f (t := 1025) zo_213_580 rfl (zcm_neq c109) rfl ?_
      refine ev_iconst (x := 0) zo_213_583 (by decide) rfl ?_
      obtain rfl := Option.some.inj h
      exact ev_retZ zo_213_584 zr_213 (Or.inl rfl)
    rw [if_neg s102] at h
    by_cases s110 : ((J.2 2000 l3.toNatClampNeg) &&& (31 : Int32)) = 15
    · rw [if_pos s110] at h
      refine ev_tableIn (t := 585) zo_213_33 s110 rfl ?_
      refine ev_aload_n zo_213_585 rfl rfl rfl rfl ?_
      refine ev_aload_n zo_213_586 rfl rfl rfl rfl ?_
      refine ev_iload_n zo_213_587 rfl rfl rfl ?_
      refine ev_iconst (x := 1) zo_213_588 (by decide) rfl ?_
      refine ev_iadd zo_213_589 rfl ?_
      obtain ⟨c111, h⟩ := zz_chk h
      refine ev_sald zo_213_590 c111 rfl ?_
      refine ev_aload_n zo_213_591 rfl rfl rfl rfl ?_
      refine ev_iload_n zo_213_592 rfl rfl rfl ?_
      refine ev_iconst (x := 2) zo_213_593 (by decide) rfl ?_
      refine ev_iadd zo_213_594 rfl ?_
      obtain ⟨c112, h⟩ := zz_chk h
      refine ev_sald zo_213_595 c112 rfl ?_
      obtain ⟨q113, hq113, h⟩ := zz_bd h
      refine ev_cV (as := [.int (J.2 2000 (l3 + (2 : Int32)).toNatClampNeg), .int (J.2 2000 (l3 + (1 : Int32)).toNatClampNeg)]) (lsn := [.ref 0, .int (J.2 2000 (l3 + (1 : Int32)).toNatClampNeg), .int (J.2 2000 (l3 + (2 : Int32)).toNatClampNeg), zzU, zzU, zzU, zzU]) (by omega) zo_213_596 zl_213_77 (by rw [zm_99]; rfl) (by rw [zm_99]; exact rfl) (by rw [zm_99]; decide) (by unfold zzIn; rw [zm_99]; rfl) (by rw [zm_99]; exact Nat.le_of_ble_eq_true rfl) (Nat.le_of_ble_eq_true rfl) (G_X6_stop (by omega) (J.2 2000 (l3 + (1 : Int32)).toNatClampNeg) (J.2 2000 (l3 + (2 : Int32)).toNatClampNeg) J q113 hq113) rfl ?_
      show zzEv _ _ _ _ [.int q113.1] _ _
      refine ev_aload_n zo_213_599 rfl rfl rfl rfl ?_
      refine ev_aload_n zo_213_600 rfl rfl rfl rfl ?_
      refine ev_iload_n zo_213_601 rfl rfl rfl ?_
      refine ev_iconst (x := 1) zo_213_602 (by decide) rfl ?_
      refine ev_iadd zo_213_603 rfl ?_
      obtain ⟨c114, h⟩ := zz_chk h
      refine ev_sald zo_213_604 c114 rfl ?_
      refine ev_aload_n zo_213_605 rfl rfl rfl rfl ?_
      refine ev_iload_n zo_213_606 rfl rfl rfl ?_
      refine ev_iconst (x := 2) zo_213_607 (by decide) rfl ?_
      refine ev_iadd zo_213_608 rfl ?_
      obtain ⟨c115, h⟩ := zz_chk h
      refine ev_sald zo_213_609 c115 rfl ?_
      obtain ⟨q116, hq116, h⟩ := zz_bd h
      refine ev_cV (as := [.int (q113.2.2 2000 (l3 + (2 : Int32)).toNatClampNeg), .int (q113.2.2 2000 (l3 + (1 : Int32)).toNatClampNeg)]) (lsn := [.ref 46, .int (q113.2.2 2000 (l3 + (1 : Int32)).toNatClampNeg), .int (q113.2.2 2000 (l3 + (2 : Int32)).toNatClampNeg), zzU]) (by omega) zo_213_610 zl_213_80 (by rw [zm_195]; rfl) (by rw [zm_195]; exact rfl) (by rw [zm_195]; decide) (by unfold zzIn; rw [zm_195]; rfl) (by rw [zm_195]; exact Nat.le_of_ble_eq_true rfl) (Nat.le_of_ble_eq_true rfl) (G_X7_stop (by omega) (q113.2.2 2000 (l3 + (1 : Int32)).toNatClampNeg) (q113.2.2 2000 (l3 + (2 : Int32)).toNatClampNeg) q113.2 q116 hq116) rfl ?_
      show zzEv _ _ _ _ [.int q116.1, .int q113.1] _ _
      by_cases c117 : q113.1 = q116.1
      · rw [if_pos c117] at h
        refine ev_cmp_t (t := 1025) zo_213_613 rfl (zcm_eq c117) ?_
        refine ev_iinc (v := 6) zo_213_1025 rfl (by decide) (zz_set rfl (by decide) (Nat.le_of_ble_eq_true rfl)) rfl ?_
        show zzEv _ _ _ [.ref 2000, .ref 0, .ref 46, .int (l3 + 6)] _ _ _
        refine ev_goto (t := 18) zo_213_1028 rfl ?_
        exact ih (l3 + 6) q116.2 r h
      rw [if_neg c117] at h
      refine ev_cmp_f (t := 1025) zo_213_613 rfl (zcm_neq c117) rfl ?_
      refine ev_iconst (x := 0) zo_213_616 (by decide) rfl ?_
      obtain rfl := Option.some.inj h
      exact ev_retZ zo_213_617 zr_213 (Or.inl rfl)
    rw [if_neg s110] at h
    by_cases s118 : ((J.2 2000 l3.toNatClampNeg) &&& (31 : Int32)) = 16
    · rw [if_pos s118] at h
      refine ev_tableIn (t := 618) zo_213_33 s118 rfl ?_
      refine ev_aload_n zo_213_618 rfl rfl rfl rfl ?_
      refine ev_aload_n zo_213_619 rfl rfl rfl rfl ?_
      refine ev_iload_n zo_213_620 rfl rfl rfl ?_
      refine ev_iconst (x := 1) zo_213_621 (by decide) rfl ?_
      refine ev_iadd zo_213_622 rfl ?_
      obtain ⟨c119, h⟩ := zz_chk h
      refine ev_sald zo_213_623 c119 rfl ?_
      refine ev_aload_n zo_213_624 rfl rfl rfl rfl ?_
      refine ev_iload_n zo_213_625 rfl rfl rfl ?_
      refine ev_iconst (x := 2) zo_213_626 (by decide) rfl ?_
      refine ev_iadd zo_213_627 rfl ?_
      obtain ⟨c120, h⟩ := zz_chk h
      refine ev_sald zo_213_628 c120 rfl ?_
      obtain ⟨q121, hq121, h⟩ := zz_bd h
      refine ev_cV (as := [.int (J.2 2000 (l3 + (2 : Int32)).toNatClampNeg), .int (J.2 2000 (l3 + (1 : Int32)).toNatClampNeg)]) (lsn := [.ref 0, .int (J.2 2000 (l3 + (1 : Int32)).toNatClampNeg), .int (J.2 2000 (l3 + (2 : Int32)).toNatClampNeg), zzU, zzU, zzU, zzU]) (by omega) zo_213_629 zl_213_81 (by rw [zm_104]; rfl) (by rw [zm_104]; exact rfl) (by rw [zm_104]; decide) (by unfold zzIn; rw [zm_104]; rfl) (by rw [zm_104]; exact Nat.le_of_ble_eq_true rfl) (Nat.le_of_ble_eq_true rfl) (G_X6_tells (by omega) (J.2 2000 (l3 + (1 : Int32)).toNatClampNeg) (J.2 2000 (l3 + (2 : Int32)).toNatClampNeg) J q121 hq121) rfl ?_
      show zzEv _ _ _ _ [.int q121.1] _ _
      refine ev_aload_n zo_213_632 rfl rfl rfl rfl ?_
      refine ev_aload_n zo_213_633 rfl rfl rfl rfl ?_
      refine ev_iload_n zo_213_634 rfl rfl rfl ?_
      refine ev_iconst (x := 1) zo_213_635 (by decide) rfl ?_
      refine ev_iadd zo_213_636 rfl ?_
      obtain ⟨c122, h⟩ := zz_chk h
      refine ev_sald zo_213_637 c122 rfl ?_
      refine ev_aload_n zo_213_638 rfl rfl rfl rfl ?_
      refine ev_iload_n zo_213_639 rfl rfl rfl ?_
      refine ev_iconst (x := 2) zo_213_640 (by decide) rfl ?_
      refine ev_iadd zo_213_641 rfl ?_
      obtain ⟨c123, h⟩ := zz_chk h
      refine ev_sald zo_213_642 c123 rfl ?_
      obtain ⟨q124, hq124, h⟩ := zz_bd h
      refine ev_cV (as := [.int (q121.2.2 2000 (l3 + (2 : Int32)).toNatClampNeg), .int (q121.2.2 2000 (l3 + (1 : Int32)).toNatClampNeg)]) (lsn := [.ref 46, .int (q121.2.2 2000 (l3 + (1 : Int32)).toNatClampNeg), .int (q121.2.2 2000 (l3 + (2 : Int32)).toNatClampNeg), zzU, zzU, zzU, zzU, zzU, zzU, zzU, zzU, zzU]) (by omega) zo_213_643 zl_213_84 (by rw [zm_198]; rfl) (by rw [zm_198]; exact rfl) (by rw [zm_198]; decide) (by unfold zzIn; rw [zm_198]; rfl) (by rw [zm_198]; exact Nat.le_of_ble_eq_true rfl) (Nat.le_of_ble_eq_true rfl) (G_X7_tells (by omega) (q121.2.2 2000 (l3 + (1 : Int32)).toNatClampNeg) (q121.2.2 2000 (l3 + (2 : Int32)).toNatClampNeg) q121.2 q124 hq124) rfl ?_
      show zzEv _ _ _ _ [.int q124.1, .int q121.1] _ _
      by_cases c125 : q121.1 = q124.1
      · rw [if_pos c125] at h
        refine ev_cmp_t (t := 1025) zo_213_646 rfl (zcm_eq c125) ?_
        refine ev_iinc (v := 6) zo_213_1025 rfl (by decide) (zz_set rfl (by decide) (Nat.le_of_ble_eq_true rfl)) rfl ?_
        show zzEv _ _ _ [.ref 2000, .ref 0, .ref 46, .int (l3 + 6)] _ _ _
        refine ev_goto (t := 18) zo_213_1028 rfl ?_
        exact ih (l3 + 6) q124.2 r h
      rw [if_neg c125] at h
      refine ev_cmp_f (t := 1025) zo_213_646 rfl (zcm_neq c125) rfl ?_
      refine ev_iconst (x := 0) zo_213_649 (by decide) rfl ?_
      obtain rfl := Option.some.inj h
      exact ev_retZ zo_213_650 zr_213 (Or.inl rfl)
    rw [if_neg s118] at h
    by_cases s126 : ((J.2 2000 l3.toNatClampNeg) &&& (31 : Int32)) = 17
    · rw [if_pos s126] at h
      refine ev_tableIn (t := 651) zo_213_33 s126 rfl ?_
      refine ev_aload_n zo_213_651 rfl rfl rfl rfl ?_
      refine ev_aload_n zo_213_652 rfl rfl rfl rfl ?_
      refine ev_iload_n zo_213_653 rfl rfl rfl ?_
      refine ev_iconst (x := 1) zo_213_654 (by decide) rfl ?_
      refine ev_iadd zo_213_655 rfl ?_
      obtain ⟨c127, h⟩ := zz_chk h
      refine ev_sald zo_213_656 c127 rfl ?_
      obtain ⟨q128, hq128, h⟩ := zz_bd h
      refine ev_cV (as := [.int (J.2 2000 (l3 + (1 : Int32)).toNatClampNeg)]) (lsn := [.ref 0, .int (J.2 2000 (l3 + (1 : Int32)).toNatClampNeg), zzU, zzU]) (by omega) zo_213_657 zl_213_85 (by rw [zm_110]; rfl) (by rw [zm_110]; exact rfl) (by rw [zm_110]; decide) (by unfold zzIn; rw [zm_110]; rfl) (by rw [zm_110]; exact Nat.le_of_ble_eq_true rfl) (Nat.le_of_ble_eq_true rfl) (G_X6_film (by omega) (J.2 2000 (l3 + (1 : Int32)).toNatClampNeg) J q128 hq128) rfl ?_
      show zzEv _ _ _ _ [.int q128.1] _ _
      refine ev_aload_n zo_213_660 rfl rfl rfl rfl ?_
      refine ev_aload_n zo_213_661 rfl rfl rfl rfl ?_
      refine ev_iload_n zo_213_662 rfl rfl rfl ?_
      refine ev_iconst (x := 1) zo_213_663 (by decide) rfl ?_
      refine ev_iadd zo_213_664 rfl ?_
      obtain ⟨c129, h⟩ := zz_chk h
      refine ev_sald zo_213_665 c129 rfl ?_
      obtain ⟨q130, hq130, h⟩ := zz_bd h
      refine ev_cV (as := [.int (q128.2.2 2000 (l3 + (1 : Int32)).toNatClampNeg)]) (lsn := [.ref 46, .int (q128.2.2 2000 (l3 + (1 : Int32)).toNatClampNeg), zzU]) (by omega) zo_213_666 zl_213_88 (by rw [zm_199]; rfl) (by rw [zm_199]; exact rfl) (by rw [zm_199]; decide) (by unfold zzIn; rw [zm_199]; rfl) (by rw [zm_199]; exact Nat.le_of_ble_eq_true rfl) (Nat.le_of_ble_eq_true rfl) (G_X7_film (by omega) (q128.2.2 2000 (l3 + (1 : Int32)).toNatClampNeg) q128.2 q130 hq130) rfl ?_
      show zzEv _ _ _ _ [.int q130.1, .int q128.1] _ _
      by_cases c131 : q128.1 = q130.1
      · rw [if_pos c131] at h
        refine ev_cmp_t (t := 1025) zo_213_669 rfl (zcm_eq c131) ?_
        refine ev_iinc (v := 6) zo_213_1025 rfl (by decide) (zz_set rfl (by decide) (Nat.le_of_ble_eq_true rfl)) rfl ?_
        show zzEv _ _ _ [.ref 2000, .ref 0, .ref 46, .int (l3 + 6)] _ _ _
        refine ev_goto (t := 18) zo_213_1028 rfl ?_
        exact ih (l3 + 6) q130.2 r h
      rw [if_neg c131] at h
      refine ev_cmp_f (t := 1025) zo_213_669 rfl (zcm_neq c131) rfl ?_
      refine ev_iconst (x := 0) zo_213_672 (by decide) rfl ?_
      obtain rfl := Option.some.inj h
      exact ev_retZ zo_213_673 zr_213 (Or.inl rfl)
    rw [if_neg s126] at h
    by_cases s132 : ((J.2 2000 l3.toNatClampNeg) &&& (31 : Int32)) = 18
    · rw [if_pos s132] at h
      refine ev_tableIn (t := 674) zo_213_33 s132 rfl ?_
      refine ev_aload_n zo_213_674 rfl rfl rfl rfl ?_
      refine ev_aload_n zo_213_675 rfl rfl rfl rfl ?_
      refine ev_iload_n zo_213_676 rfl rfl rfl ?_
      refine ev_iconst (x := 1) zo_213_677 (by decide) rfl ?_
      refine ev_iadd zo_213_678 rfl ?_
      obtain ⟨c133, h⟩ := zz_chk h
      refine ev_sald zo_213_679 c133 rfl ?_
      obtain ⟨q134, hq134, h⟩ := zz_bd h
      refine ev_cV (as := [.int (J.2 2000 (l3 + (1 : Int32)).toNatClampNeg)]) (lsn := [.ref 0, .int (J.2 2000 (l3 + (1 : Int32)).toNatClampNeg), zzU, zzU]) (by omega) zo_213_680 zl_213_89 (by rw [zm_111]; rfl) (by rw [zm_111]; exact rfl) (by rw [zm_111]; decide) (by unfold zzIn; rw [zm_111]; rfl) (by rw [zm_111]; exact Nat.le_of_ble_eq_true rfl) (Nat.le_of_ble_eq_true rfl) (G_X6_drawn (by omega) (J.2 2000 (l3 + (1 : Int32)).toNatClampNeg) J q134 hq134) rfl ?_
      show zzEv _ _ _ _ [.int q134.1] _ _
      refine ev_aload_n zo_213_683 rfl rfl rfl rfl ?_
      refine ev_aload_n zo_213_684 rfl rfl rfl rfl ?_
      refine ev_iload_n zo_213_685 rfl rfl rfl ?_
      refine ev_iconst (x := 1) zo_213_686 (by decide) rfl ?_
      refine ev_iadd zo_213_687 rfl ?_
      obtain ⟨c135, h⟩ := zz_chk h
      refine ev_sald zo_213_688 c135 rfl ?_
      obtain ⟨q136, hq136, h⟩ := zz_bd h
      refine ev_cV (as := [.int (q134.2.2 2000 (l3 + (1 : Int32)).toNatClampNeg)]) (lsn := [.ref 46, .int (q134.2.2 2000 (l3 + (1 : Int32)).toNatClampNeg)]) (by omega) zo_213_689 zl_213_92 (by rw [zm_201]; rfl) (by rw [zm_201]; exact rfl) (by rw [zm_201]; decide) (by unfold zzIn; rw [zm_201]; rfl) (by rw [zm_201]; exact Nat.le_of_ble_eq_true rfl) (Nat.le_of_ble_eq_true rfl) (G_X7_drawn (by omega) (q134.2.2 2000 (l3 + (1 : Int32)).toNatClampNeg) q134.2 q136 hq136) rfl ?_
      show zzEv _ _ _ _ [.int q136.1, .int q134.1] _ _
      by_cases c137 : q134.1 = q136.1
      · rw [if_pos c137] at h
        refine ev_cmp_t (t := 1025) zo_213_692 rfl (zcm_eq c137) ?_
        refine ev_iinc (v := 6) zo_213_1025 rfl (by decide) (zz_set rfl (by decide) (Nat.le_of_ble_eq_true rfl)) rfl ?_
        show zzEv _ _ _ [.ref 2000, .ref 0, .ref 46, .int (l3 + 6)] _ _ _
        refine ev_goto (t := 18) zo_213_1028 rfl ?_
        exact ih (l3 + 6) q136.2 r h
      rw [if_neg c137] at h
      refine ev_cmp_f (t := 1025) zo_213_692 rfl (zcm_neq c137) rfl ?_
      refine ev_iconst (x := 0) zo_213_695 (by decide) rfl ?_
      obtain rfl := Option.some.inj h
      exact ev_retZ zo_213_696 zr_213 (Or.inl rfl)
    rw [if_neg s132] at h
    by_cases s138 : ((J.2 2000 l3.toNatClampNeg) &&& (31 : Int32)) = 19
    · rw [if_pos s138] at h
      refine ev_tableIn (t := 697) zo_213_33 s138 rfl ?_
      refine ev_aload_n zo_213_697 rfl rfl rfl rfl ?_
      refine ev_aload_n zo_213_698 rfl rfl rfl rfl ?_
      refine ev_iload_n zo_213_699 rfl rfl rfl ?_
      refine ev_iconst (x := 1) zo_213_700 (by decide) rfl ?_
      refine ev_iadd zo_213_701 rfl ?_
      obtain ⟨c139, h⟩ := zz_chk h
      refine ev_sald zo_213_702 c139 rfl ?_
      refine ev_aload_n zo_213_703 rfl rfl rfl rfl ?_
      refine ev_iload_n zo_213_704 rfl rfl rfl ?_
      refine ev_iconst (x := 2) zo_213_705 (by decide) rfl ?_
      refine ev_iadd zo_213_706 rfl ?_
      obtain ⟨c140, h⟩ := zz_chk h
      refine ev_sald zo_213_707 c140 rfl ?_
      refine ev_aload_n zo_213_708 rfl rfl rfl rfl ?_
      refine ev_iload_n zo_213_709 rfl rfl rfl ?_
      refine ev_iconst (x := 3) zo_213_710 (by decide) rfl ?_
      refine ev_iadd zo_213_711 rfl ?_
      obtain ⟨c141, h⟩ := zz_chk h
      refine ev_sald zo_213_712 c141 rfl ?_
      obtain ⟨q142, hq142, h⟩ := zz_bd h
      refine ev_cV (as := [.int (J.2 2000 (l3 + (3 : Int32)).toNatClampNeg), .int (J.2 2000 (l3 + (2 : Int32)).toNatClampNeg), .int (J.2 2000 (l3 + (1 : Int32)).toNatClampNeg)]) (lsn := [.ref 0, .int (J.2 2000 (l3 + (1 : Int32)).toNatClampNeg), .int (J.2 2000 (l3 + (2 : Int32)).toNatClampNeg), .int (J.2 2000 (l3 + (3 : Int32)).toNatClampNeg), zzU, zzU, zzU]) (by omega) zo_213_713 zl_213_93 (by rw [zm_112]; rfl) (by rw [zm_112]; exact rfl) (by rw [zm_112]; decide) (by unfold zzIn; rw [zm_112]; rfl) (by rw [zm_112]; exact Nat.le_of_ble_eq_true rfl) (Nat.le_of_ble_eq_true rfl) (G_X6_chance (by omega) (J.2 2000 (l3 + (1 : Int32)).toNatClampNeg) (J.2 2000 (l3 + (2 : Int32)).toNatClampNeg) (J.2 2000 (l3 + (3 : Int32)).toNatClampNeg) J q142 hq142) rfl ?_
      show zzEv _ _ _ _ [.long q142.1] _ _
      refine ev_aload_n zo_213_716 rfl rfl rfl rfl ?_
      refine ev_aload_n zo_213_717 rfl rfl rfl rfl ?_
      refine ev_iload_n zo_213_718 rfl rfl rfl ?_
      refine ev_iconst (x := 1) zo_213_719 (by decide) rfl ?_
      refine ev_iadd zo_213_720 rfl ?_
      obtain ⟨c143, h⟩ := zz_chk h
      refine ev_sald zo_213_721 c143 rfl ?_
      refine ev_aload_n zo_213_722 rfl rfl rfl rfl ?_
      refine ev_iload_n zo_213_723 rfl rfl rfl ?_
      refine ev_iconst (x := 2) zo_213_724 (by decide) rfl ?_
      refine ev_iadd zo_213_725 rfl ?_
      obtain ⟨c144, h⟩ := zz_chk h
      refine ev_sald zo_213_726 c144 rfl ?_
      refine ev_aload_n zo_213_727 rfl rfl rfl rfl ?_
      refine ev_iload_n zo_213_728 rfl rfl rfl ?_
      refine ev_iconst (x := 3) zo_213_729 (by decide) rfl ?_
      refine ev_iadd zo_213_730 rfl ?_
      obtain ⟨c145, h⟩ := zz_chk h
      refine ev_sald zo_213_731 c145 rfl ?_
      obtain ⟨q146, hq146, h⟩ := zz_bd h
      refine ev_cV (as := [.int (q142.2.2 2000 (l3 + (3 : Int32)).toNatClampNeg), .int (q142.2.2 2000 (l3 + (2 : Int32)).toNatClampNeg), .int (q142.2.2 2000 (l3 + (1 : Int32)).toNatClampNeg)]) (lsn := [.ref 46, .int (q142.2.2 2000 (l3 + (1 : Int32)).toNatClampNeg), .int (q142.2.2 2000 (l3 + (2 : Int32)).toNatClampNeg), .int (q142.2.2 2000 (l3 + (3 : Int32)).toNatClampNeg), zzU, zzU, zzU, zzU, zzU, zzU, zzU, zzU, zzU]) (by omega) zo_213_732 zl_213_97 (by rw [zm_202]; rfl) (by rw [zm_202]; exact rfl) (by rw [zm_202]; decide) (by unfold zzIn; rw [zm_202]; rfl) (by rw [zm_202]; exact Nat.le_of_ble_eq_true rfl) (Nat.le_of_ble_eq_true rfl) (G_X7_chance (by omega) (q142.2.2 2000 (l3 + (1 : Int32)).toNatClampNeg) (q142.2.2 2000 (l3 + (2 : Int32)).toNatClampNeg) (q142.2.2 2000 (l3 + (3 : Int32)).toNatClampNeg) q142.2 q146 hq146) rfl ?_
      show zzEv _ _ _ _ [.long q146.1, .long q142.1] _ _
      refine ev_lcmp zo_213_735 rfl ?_
      by_cases c147 : (lg_cmp q142.1 q146.1) = (0 : Int32)
      · rw [if_pos c147] at h
        refine ev_if_t (t := 1025) zo_213_736 rfl (zcm_eq c147) ?_
        refine ev_iinc (v := 6) zo_213_1025 rfl (by decide) (zz_set rfl (by decide) (Nat.le_of_ble_eq_true rfl)) rfl ?_
        show zzEv _ _ _ [.ref 2000, .ref 0, .ref 46, .int (l3 + 6)] _ _ _
        refine ev_goto (t := 18) zo_213_1028 rfl ?_
        exact ih (l3 + 6) q146.2 r h
      rw [if_neg c147] at h
      refine ev_if_f (t := 1025) zo_213_736 rfl (zcm_neq c147) rfl ?_
      refine ev_iconst (x := 0) zo_213_739 (by decide) rfl ?_
      obtain rfl := Option.some.inj h
      exact ev_retZ zo_213_740 zr_213 (Or.inl rfl)
    rw [if_neg s138] at h
    by_cases s148 : ((J.2 2000 l3.toNatClampNeg) &&& (31 : Int32)) = 20
    · rw [if_pos s148] at h
      refine ev_tableIn (t := 741) zo_213_33 s148 rfl ?_
      refine ev_aload_n zo_213_741 rfl rfl rfl rfl ?_
      obtain ⟨q149, hq149, h⟩ := zz_bd h
      refine ev_cV (as := []) (lsn := [.ref 0]) (by omega) zo_213_742 zl_213_98 (by rw [zm_114]; rfl) (by rw [zm_114]; exact rfl) (by rw [zm_114]; decide) (by unfold zzIn; rw [zm_114]; rfl) (by rw [zm_114]; exact Nat.le_of_ble_eq_true rfl) (Nat.le_of_ble_eq_true rfl) (G_X6_image (by omega) J q149 hq149) rfl ?_
      show zzEv _ _ _ _ [.int q149.1] _ _
      refine ev_aload_n zo_213_745 rfl rfl rfl rfl ?_
      obtain ⟨q150, hq150, h⟩ := zz_bd h
      refine ev_cV (as := []) (lsn := [.ref 46, zzU]) (by omega) zo_213_746 zl_213_101 (by rw [zm_203]; rfl) (by rw [zm_203]; exact rfl) (by rw [zm_203]; decide) (by unfold zzIn; rw [zm_203]; rfl) (by rw [zm_203]; exact Nat.le_of_ble_eq_true rfl) (Nat.le_of_ble_eq_true rfl) (G_X7_image (by omega) q149.2 q150 hq150) rfl ?_
      show zzEv _ _ _ _ [.int q150.1, .int q149.1] _ _
      by_cases c151 : q149.1 = q150.1
      · rw [if_pos c151] at h
        refine ev_cmp_t (t := 1025) zo_213_749 rfl (zcm_eq c151) ?_
        refine ev_iinc (v := 6) zo_213_1025 rfl (by decide) (zz_set rfl (by decide) (Nat.le_of_ble_eq_true rfl)) rfl ?_
        show zzEv _ _ _ [.ref 2000, .ref 0, .ref 46, .int (l3 + 6)] _ _ _
        refine ev_goto (t := 18) zo_213_1028 rfl ?_
        exact ih (l3 + 6) q150.2 r h
      rw [if_neg c151] at h
      refine ev_cmp_f (t := 1025) zo_213_749 rfl (zcm_neq c151) rfl ?_
      refine ev_iconst (x := 0) zo_213_752 (by decide) rfl ?_
      obtain rfl := Option.some.inj h
      exact ev_retZ zo_213_753 zr_213 (Or.inl rfl)
    rw [if_neg s148] at h
    by_cases s152 : ((J.2 2000 l3.toNatClampNeg) &&& (31 : Int32)) = 21
    · rw [if_pos s152] at h
      refine ev_tableIn (t := 754) zo_213_33 s152 rfl ?_
      refine ev_aload_n zo_213_754 rfl rfl rfl rfl ?_
      obtain ⟨q153, hq153, h⟩ := zz_bd h
      refine ev_cV (as := []) (lsn := [.ref 0]) (by omega) zo_213_755 zl_213_102 (by rw [zm_115]; rfl) (by rw [zm_115]; exact rfl) (by rw [zm_115]; decide) (by unfold zzIn; rw [zm_115]; rfl) (by rw [zm_115]; exact Nat.le_of_ble_eq_true rfl) (Nat.le_of_ble_eq_true rfl) (G_X6_back (by omega) J q153 hq153) rfl ?_
      show zzEv _ _ _ _ [.int q153.1] _ _
      refine ev_aload_n zo_213_758 rfl rfl rfl rfl ?_
      obtain ⟨q154, hq154, h⟩ := zz_bd h
      refine ev_cV (as := []) (lsn := [.ref 46, zzU]) (by omega) zo_213_759 zl_213_105 (by rw [zm_204]; rfl) (by rw [zm_204]; exact rfl) (by rw [zm_204]; decide) (by unfold zzIn; rw [zm_204]; rfl) (by rw [zm_204]; exact Nat.le_of_ble_eq_true rfl) (Nat.le_of_ble_eq_true rfl) (G_X7_back (by omega) q153.2 q154 hq154) rfl ?_
      show zzEv _ _ _ _ [.int q154.1, .int q153.1] _ _
      by_cases c155 : q153.1 = q154.1
      · rw [if_pos c155] at h
        refine ev_cmp_t (t := 1025) zo_213_762 rfl (zcm_eq c155) ?_
        refine ev_iinc (v := 6) zo_213_1025 rfl (by decide) (zz_set rfl (by decide) (Nat.le_of_ble_eq_true rfl)) rfl ?_
        show zzEv _ _ _ [.ref 2000, .ref 0, .ref 46, .int (l3 + 6)] _ _ _
        refine ev_goto (t := 18) zo_213_1028 rfl ?_
        exact ih (l3 + 6) q154.2 r h
      rw [if_neg c155] at h
      refine ev_cmp_f (t := 1025) zo_213_762 rfl (zcm_neq c155) rfl ?_
      refine ev_iconst (x := 0) zo_213_765 (by decide) rfl ?_
      obtain rfl := Option.some.inj h
      exact ev_retZ zo_213_766 zr_213 (Or.inl rfl)
    rw [if_neg s152] at h
    by_cases s156 : ((J.2 2000 l3.toNatClampNeg) &&& (31 : Int32)) = 22
    · rw [if_pos s156] at h
      refine ev_tableIn (t := 767) zo_213_33 s156 rfl ?_
      refine ev_aload_n zo_213_767 rfl rfl rfl rfl ?_
      refine ev_aload_n zo_213_768 rfl rfl rfl rfl ?_
      refine ev_iload_n zo_213_769 rfl rfl rfl ?_
      refine ev_iconst (x := 1) zo_213_770 (by decide) rfl ?_
      refine ev_iadd zo_213_771 rfl ?_
      obtain ⟨c157, h⟩ := zz_chk h
      refine ev_sald zo_213_772 c157 rfl ?_
      obtain ⟨q158, hq158, h⟩ := zz_bd h
      refine ev_cV (as := [.int (J.2 2000 (l3 + (1 : Int32)).toNatClampNeg)]) (lsn := [.ref 0, .int (J.2 2000 (l3 + (1 : Int32)).toNatClampNeg)]) (by omega) zo_213_773 zl_213_106 (by rw [zm_116]; rfl) (by rw [zm_116]; exact rfl) (by rw [zm_116]; decide) (by unfold zzIn; rw [zm_116]; rfl) (by rw [zm_116]; exact Nat.le_of_ble_eq_true rfl) (Nat.le_of_ble_eq_true rfl) (G_X6_count (by omega) (J.2 2000 (l3 + (1 : Int32)).toNatClampNeg) J q158 hq158) rfl ?_
      show zzEv _ _ _ _ [.int q158.1] _ _
      refine ev_aload_n zo_213_776 rfl rfl rfl rfl ?_
      refine ev_aload_n zo_213_777 rfl rfl rfl rfl ?_
      refine ev_iload_n zo_213_778 rfl rfl rfl ?_
      refine ev_iconst (x := 1) zo_213_779 (by decide) rfl ?_
      refine ev_iadd zo_213_780 rfl ?_
      obtain ⟨c159, h⟩ := zz_chk h
      refine ev_sald zo_213_781 c159 rfl ?_
      obtain ⟨q160, hq160, h⟩ := zz_bd h
      refine ev_cV (as := [.int (q158.2.2 2000 (l3 + (1 : Int32)).toNatClampNeg)]) (lsn := [.ref 46, .int (q158.2.2 2000 (l3 + (1 : Int32)).toNatClampNeg), zzU, zzU]) (by omega) zo_213_782 zl_213_109 (by rw [zm_205]; rfl) (by rw [zm_205]; exact rfl) (by rw [zm_205]; decide) (by unfold zzIn; rw [zm_205]; rfl) (by rw [zm_205]; exact Nat.le_of_ble_eq_true rfl) (Nat.le_of_ble_eq_true rfl) (G_X7_count (by omega) (q158.2.2 2000 (l3 + (1 : Int32)).toNatClampNeg) q158.2 q160 hq160) rfl ?_
      show zzEv _ _ _ _ [.int q160.1, .int q158.1] _ _
      by_cases c161 : q158.1 = q160.1
      · rw [if_pos c161] at h
        refine ev_cmp_t (t := 1025) zo_213_785 rfl (zcm_eq c161) ?_
        refine ev_iinc (v := 6) zo_213_1025 rfl (by decide) (zz_set rfl (by decide) (Nat.le_of_ble_eq_true rfl)) rfl ?_
        show zzEv _ _ _ [.ref 2000, .ref 0, .ref 46, .int (l3 + 6)] _ _ _
        refine ev_goto (t := 18) zo_213_1028 rfl ?_
        exact ih (l3 + 6) q160.2 r h
      rw [if_neg c161] at h
      refine ev_cmp_f (t := 1025) zo_213_785 rfl (zcm_neq c161) rfl ?_
      refine ev_iconst (x := 0) zo_213_788 (by decide) rfl ?_
      obtain rfl := Option.some.inj h
      exact ev_retZ zo_213_789 zr_213 (Or.inl rfl)
    rw [if_neg s156] at h
    by_cases s162 : ((J.2 2000 l3.toNatClampNeg) &&& (31 : Int32)) = 23
    · rw [if_pos s162] at h
      refine ev_tableIn (t := 790) zo_213_33 s162 rfl ?_
      refine ev_aload_n zo_213_790 rfl rfl rfl rfl ?_
      refine ev_aload_n zo_213_791 rfl rfl rfl rfl ?_
      refine ev_iload_n zo_213_792 rfl rfl rfl ?_
      refine ev_iconst (x := 1) zo_213_793 (by decide) rfl ?_
      refine ev_iadd zo_213_794 rfl ?_
      obtain ⟨c163, h⟩ := zz_chk h
      refine ev_sald zo_213_795 c163 rfl ?_
      refine ev_aload_n zo_213_796 rfl rfl rfl rfl ?_
      refine ev_iload_n zo_213_797 rfl rfl rfl ?_
      refine ev_iconst (x := 2) zo_213_798 (by decide) rfl ?_
      refine ev_iadd zo_213_799 rfl ?_
      obtain ⟨c164, h⟩ := zz_chk h
      refine ev_sald zo_213_800 c164 rfl ?_
      refine ev_aload_n zo_213_801 rfl rfl rfl rfl ?_
      refine ev_iload_n zo_213_802 rfl rfl rfl ?_
      refine ev_iconst (x := 3) zo_213_803 (by decide) rfl ?_
      refine ev_iadd zo_213_804 rfl ?_
      obtain ⟨c165, h⟩ := zz_chk h
      refine ev_sald zo_213_805 c165 rfl ?_
      obtain ⟨q166, hq166, h⟩ := zz_bd h
      refine ev_cV (as := [.int (J.2 2000 (l3 + (3 : Int32)).toNatClampNeg), .int (J.2 2000 (l3 + (2 : Int32)).toNatClampNeg), .int (J.2 2000 (l3 + (1 : Int32)).toNatClampNeg)]) (lsn := [.ref 0, .int (J.2 2000 (l3 + (1 : Int32)).toNatClampNeg), .int (J.2 2000 (l3 + (2 : Int32)).toNatClampNeg), .int (J.2 2000 (l3 + (3 : Int32)).toNatClampNeg), zzU]) (by omega) zo_213_806 zl_213_110 (by rw [zm_117]; rfl) (by rw [zm_117]; exact rfl) (by rw [zm_117]; decide) (by unfold zzIn; rw [zm_117]; rfl) (by rw [zm_117]; exact Nat.le_of_ble_eq_true rfl) (Nat.le_of_ble_eq_true rfl) (G_X6_sheet (by omega) (J.2 2000 (l3 + (1 : Int32)).toNatClampNeg) (J.2 2000 (l3 + (2 : Int32)).toNatClampNeg) (J.2 2000 (l3 + (3 : Int32)).toNatClampNeg) J q166 hq166) rfl ?_
      show zzEv _ _ _ _ [.int q166.1] _ _
      refine ev_aload_n zo_213_809 rfl rfl rfl rfl ?_
      refine ev_aload_n zo_213_810 rfl rfl rfl rfl ?_
      refine ev_iload_n zo_213_811 rfl rfl rfl ?_
      refine ev_iconst (x := 1) zo_213_812 (by decide) rfl ?_
      refine ev_iadd zo_213_813 rfl ?_
      obtain ⟨c167, h⟩ := zz_chk h
      refine ev_sald zo_213_814 c167 rfl ?_
      refine ev_aload_n zo_213_815 rfl rfl rfl rfl ?_
      refine ev_iload_n zo_213_816 rfl rfl rfl ?_
      refine ev_iconst (x := 2) zo_213_817 (by decide) rfl ?_
      refine ev_iadd zo_213_818 rfl ?_
      obtain ⟨c168, h⟩ := zz_chk h
      refine ev_sald zo_213_819 c168 rfl ?_
      refine ev_aload_n zo_213_820 rfl rfl rfl rfl ?_
      refine ev_iload_n zo_213_821 rfl rfl rfl ?_
      refine ev_iconst (x := 3) zo_213_822 (by decide) rfl ?_
      refine ev_iadd zo_213_823 rfl ?_
      obtain ⟨c169, h⟩ := zz_chk h
      refine ev_sald zo_213_824 c169 rfl ?_
      obtain ⟨q170, hq170, h⟩ := zz_bd h
      refine ev_cV (as := [.int (q166.2.2 2000 (l3 + (3 : Int32)).toNatClampNeg), .int (q166.2.2 2000 (l3 + (2 : Int32)).toNatClampNeg), .int (q166.2.2 2000 (l3 + (1 : Int32)).toNatClampNeg)]) (lsn := [.ref 46, .int (q166.2.2 2000 (l3 + (1 : Int32)).toNatClampNeg), .int (q166.2.2 2000 (l3 + (2 : Int32)).toNatClampNeg), .int (q166.2.2 2000 (l3 + (3 : Int32)).toNatClampNeg), zzU]) (by omega) zo_213_825 zl_213_113 (by rw [zm_207]; rfl) (by rw [zm_207]; exact rfl) (by rw [zm_207]; decide) (by unfold zzIn; rw [zm_207]; rfl) (by rw [zm_207]; exact Nat.le_of_ble_eq_true rfl) (Nat.le_of_ble_eq_true rfl) (G_X7_sheet (by omega) (q166.2.2 2000 (l3 + (1 : Int32)).toNatClampNeg) (q166.2.2 2000 (l3 + (2 : Int32)).toNatClampNeg) (q166.2.2 2000 (l3 + (3 : Int32)).toNatClampNeg) q166.2 q170 hq170) rfl ?_
      show zzEv _ _ _ _ [.int q170.1, .int q166.1] _ _
      by_cases c171 : q166.1 = q170.1
      · rw [if_pos c171] at h
        refine ev_cmp_t (t := 1025) zo_213_828 rfl (zcm_eq c171) ?_
        refine ev_iinc (v := 6) zo_213_1025 rfl (by decide) (zz_set rfl (by decide) (Nat.le_of_ble_eq_true rfl)) rfl ?_
        show zzEv _ _ _ [.ref 2000, .ref 0, .ref 46, .int (l3 + 6)] _ _ _
        refine ev_goto (t := 18) zo_213_1028 rfl ?_
        exact ih (l3 + 6) q170.2 r h
      rw [if_neg c171] at h
      refine ev_cmp_f (t := 1025) zo_213_828 rfl (zcm_neq c171) rfl ?_
      refine ev_iconst (x := 0) zo_213_831 (by decide) rfl ?_
      obtain rfl := Option.some.inj h
      exact ev_retZ zo_213_832 zr_213 (Or.inl rfl)
    rw [if_neg s162] at h
    by_cases s172 : ((J.2 2000 l3.toNatClampNeg) &&& (31 : Int32)) = 24
    · rw [if_pos s172] at h
      refine ev_tableIn (t := 833) zo_213_33 s172 rfl ?_
      refine ev_aload_n zo_213_833 rfl rfl rfl rfl ?_
      refine ev_aload_n zo_213_834 rfl rfl rfl rfl ?_
      refine ev_iload_n zo_213_835 rfl rfl rfl ?_
      refine ev_iconst (x := 1) zo_213_836 (by decide) rfl ?_
      refine ev_iadd zo_213_837 rfl ?_
      obtain ⟨c173, h⟩ := zz_chk h
      refine ev_sald zo_213_838 c173 rfl ?_
      refine ev_aload_n zo_213_839 rfl rfl rfl rfl ?_
      refine ev_iload_n zo_213_840 rfl rfl rfl ?_
      refine ev_iconst (x := 2) zo_213_841 (by decide) rfl ?_
      refine ev_iadd zo_213_842 rfl ?_
      obtain ⟨c174, h⟩ := zz_chk h
      refine ev_sald zo_213_843 c174 rfl ?_
      refine ev_aload_n zo_213_844 rfl rfl rfl rfl ?_
      refine ev_iload_n zo_213_845 rfl rfl rfl ?_
      refine ev_iconst (x := 3) zo_213_846 (by decide) rfl ?_
      refine ev_iadd zo_213_847 rfl ?_
      obtain ⟨c175, h⟩ := zz_chk h
      refine ev_sald zo_213_848 c175 rfl ?_
      obtain ⟨q176, hq176, h⟩ := zz_bd h
      refine ev_cV (as := [.int (J.2 2000 (l3 + (3 : Int32)).toNatClampNeg), .int (J.2 2000 (l3 + (2 : Int32)).toNatClampNeg), .int (J.2 2000 (l3 + (1 : Int32)).toNatClampNeg)]) (lsn := [.ref 0, .int (J.2 2000 (l3 + (1 : Int32)).toNatClampNeg), .int (J.2 2000 (l3 + (2 : Int32)).toNatClampNeg), .int (J.2 2000 (l3 + (3 : Int32)).toNatClampNeg), zzU]) (by omega) zo_213_849 zl_213_114 (by rw [zm_118]; rfl) (by rw [zm_118]; exact rfl) (by rw [zm_118]; decide) (by unfold zzIn; rw [zm_118]; rfl) (by rw [zm_118]; exact Nat.le_of_ble_eq_true rfl) (Nat.le_of_ble_eq_true rfl) (G_X6_cell (by omega) (J.2 2000 (l3 + (1 : Int32)).toNatClampNeg) (J.2 2000 (l3 + (2 : Int32)).toNatClampNeg) (J.2 2000 (l3 + (3 : Int32)).toNatClampNeg) J q176 hq176) rfl ?_
      show zzEv _ _ _ _ [.int q176.1] _ _
      refine ev_aload_n zo_213_852 rfl rfl rfl rfl ?_
      refine ev_aload_n zo_213_853 rfl rfl rfl rfl ?_
      refine ev_iload_n zo_213_854 rfl rfl rfl ?_
      refine ev_iconst (x := 1) zo_213_855 (by decide) rfl ?_
      refine ev_iadd zo_213_856 rfl ?_
      obtain ⟨c177, h⟩ := zz_chk h
      refine ev_sald zo_213_857 c177 rfl ?_
      refine ev_aload_n zo_213_858 rfl rfl rfl rfl ?_
      refine ev_iload_n zo_213_859 rfl rfl rfl ?_
      refine ev_iconst (x := 2) zo_213_860 (by decide) rfl ?_
      refine ev_iadd zo_213_861 rfl ?_
      obtain ⟨c178, h⟩ := zz_chk h
      refine ev_sald zo_213_862 c178 rfl ?_
      refine ev_aload_n zo_213_863 rfl rfl rfl rfl ?_
      refine ev_iload_n zo_213_864 rfl rfl rfl ?_
      refine ev_iconst (x := 3) zo_213_865 (by decide) rfl ?_
      refine ev_iadd zo_213_866 rfl ?_
      obtain ⟨c179, h⟩ := zz_chk h
      refine ev_sald zo_213_867 c179 rfl ?_
      obtain ⟨q180, hq180, h⟩ := zz_bd h
      refine ev_cV (as := [.int (q176.2.2 2000 (l3 + (3 : Int32)).toNatClampNeg), .int (q176.2.2 2000 (l3 + (2 : Int32)).toNatClampNeg), .int (q176.2.2 2000 (l3 + (1 : Int32)).toNatClampNeg)]) (lsn := [.ref 46, .int (q176.2.2 2000 (l3 + (1 : Int32)).toNatClampNeg), .int (q176.2.2 2000 (l3 + (2 : Int32)).toNatClampNeg), .int (q176.2.2 2000 (l3 + (3 : Int32)).toNatClampNeg)]) (by omega) zo_213_868 zl_213_117 (by rw [zm_208]; rfl) (by rw [zm_208]; exact rfl) (by rw [zm_208]; decide) (by unfold zzIn; rw [zm_208]; rfl) (by rw [zm_208]; exact Nat.le_of_ble_eq_true rfl) (Nat.le_of_ble_eq_true rfl) (G_X7_cell (by omega) (q176.2.2 2000 (l3 + (1 : Int32)).toNatClampNeg) (q176.2.2 2000 (l3 + (2 : Int32)).toNatClampNeg) (q176.2.2 2000 (l3 + (3 : Int32)).toNatClampNeg) q176.2 q180 hq180) rfl ?_
      show zzEv _ _ _ _ [.int q180.1, .int q176.1] _ _
      by_cases c181 : q176.1 = q180.1
      · rw [if_pos c181] at h
        refine ev_cmp_t (t := 1025) zo_213_871 rfl (zcm_eq c181) ?_
        refine ev_iinc (v := 6) zo_213_1025 rfl (by decide) (zz_set rfl (by decide) (Nat.le_of_ble_eq_true rfl)) rfl ?_
        show zzEv _ _ _ [.ref 2000, .ref 0, .ref 46, .int (l3 + 6)] _ _ _
        refine ev_goto (t := 18) zo_213_1028 rfl ?_
        exact ih (l3 + 6) q180.2 r h
      rw [if_neg c181] at h
      refine ev_cmp_f (t := 1025) zo_213_871 rfl (zcm_neq c181) rfl ?_
      refine ev_iconst (x := 0) zo_213_874 (by decide) rfl ?_
      obtain rfl := Option.some.inj h
      exact ev_retZ zo_213_875 zr_213 (Or.inl rfl)
    rw [if_neg s172] at h
    by_cases s182 : ((J.2 2000 l3.toNatClampNeg) &&& (31 : Int32)) = 25
    · rw [if_pos s182] at h
      refine ev_tableIn (t := 876) zo_213_33 s182 rfl ?_
      refine ev_aload_n zo_213_876 rfl rfl rfl rfl ?_
      refine ev_aload_n zo_213_877 rfl rfl rfl rfl ?_
      refine ev_iload_n zo_213_878 rfl rfl rfl ?_
      refine ev_iconst (x := 1) zo_213_879 (by decide) rfl ?_
      refine ev_iadd zo_213_880 rfl ?_
      obtain ⟨c183, h⟩ := zz_chk h
      refine ev_sald zo_213_881 c183 rfl ?_
      refine ev_aload_n zo_213_882 rfl rfl rfl rfl ?_
      refine ev_iload_n zo_213_883 rfl rfl rfl ?_
      refine ev_iconst (x := 2) zo_213_884 (by decide) rfl ?_
      refine ev_iadd zo_213_885 rfl ?_
      obtain ⟨c184, h⟩ := zz_chk h
      refine ev_sald zo_213_886 c184 rfl ?_
      refine ev_aload_n zo_213_887 rfl rfl rfl rfl ?_
      refine ev_iload_n zo_213_888 rfl rfl rfl ?_
      refine ev_iconst (x := 3) zo_213_889 (by decide) rfl ?_
      refine ev_iadd zo_213_890 rfl ?_
      obtain ⟨c185, h⟩ := zz_chk h
      refine ev_sald zo_213_891 c185 rfl ?_
      refine ev_aload_n zo_213_892 rfl rfl rfl rfl ?_
      refine ev_iload_n zo_213_893 rfl rfl rfl ?_
      refine ev_iconst (x := 4) zo_213_894 (by decide) rfl ?_
      refine ev_iadd zo_213_895 rfl ?_
      obtain ⟨c186, h⟩ := zz_chk h
      refine ev_sald zo_213_896 c186 rfl ?_
      refine ev_aload_n zo_213_897 rfl rfl rfl rfl ?_
      refine ev_iload_n zo_213_898 rfl rfl rfl ?_
      refine ev_iconst (x := 5) zo_213_899 (by decide) rfl ?_
      refine ev_iadd zo_213_900 rfl ?_
      obtain ⟨c187, h⟩ := zz_chk h
      refine ev_sald zo_213_901 c187 rfl ?_
      obtain ⟨q188, hq188, h⟩ := zz_bd h
      refine ev_cV (as := [.int (J.2 2000 (l3 + (5 : Int32)).toNatClampNeg), .int (J.2 2000 (l3 + (4 : Int32)).toNatClampNeg), .int (J.2 2000 (l3 + (3 : Int32)).toNatClampNeg), .int (J.2 2000 (l3 + (2 : Int32)).toNatClampNeg), .int (J.2 2000 (l3 + (1 : Int32)).toNatClampNeg)]) (lsn := [.ref 0, .int (J.2 2000 (l3 + (1 : Int32)).toNatClampNeg), .int (J.2 2000 (l3 + (2 : Int32)).toNatClampNeg), .int (J.2 2000 (l3 + (3 : Int32)).toNatClampNeg), .int (J.2 2000 (l3 + (4 : Int32)).toNatClampNeg), .int (J.2 2000 (l3 + (5 : Int32)).toNatClampNeg), zzU, zzU]) (by omega) zo_213_902 zl_213_118 (by rw [zm_119]; rfl) (by rw [zm_119]; exact rfl) (by rw [zm_119]; decide) (by unfold zzIn; rw [zm_119]; rfl) (by rw [zm_119]; exact Nat.le_of_ble_eq_true rfl) (Nat.le_of_ble_eq_true rfl) (G_X6_copy (by omega) (J.2 2000 (l3 + (1 : Int32)).toNatClampNeg) (J.2 2000 (l3 + (2 : Int32)).toNatClampNeg) (J.2 2000 (l3 + (3 : Int32)).toNatClampNeg) (J.2 2000 (l3 + (4 : Int32)).toNatClampNeg) (J.2 2000 (l3 + (5 : Int32)).toNatClampNeg) J q188 hq188) rfl ?_
      show zzEv _ _ _ _ [.int q188.1] _ _
      refine ev_aload_n zo_213_905 rfl rfl rfl rfl ?_
      refine ev_aload_n zo_213_906 rfl rfl rfl rfl ?_
      refine ev_iload_n zo_213_907 rfl rfl rfl ?_
      refine ev_iconst (x := 1) zo_213_908 (by decide) rfl ?_
      refine ev_iadd zo_213_909 rfl ?_
      obtain ⟨c189, h⟩ := zz_chk h
      refine ev_sald zo_213_910 c189 rfl ?_
      refine ev_aload_n zo_213_911 rfl rfl rfl rfl ?_
      refine ev_iload_n zo_213_912 rfl rfl rfl ?_
      refine ev_iconst (x := 2) zo_213_913 (by decide) rfl ?_
      refine ev_iadd zo_213_914 rfl ?_
      obtain ⟨c190, h⟩ := zz_chk h
      refine ev_sald zo_213_915 c190 rfl ?_
      refine ev_aload_n zo_213_916 rfl rfl rfl rfl ?_
      refine ev_iload_n zo_213_917 rfl rfl rfl ?_
      refine ev_iconst (x := 3) zo_213_918 (by decide) rfl ?_
      refine ev_iadd zo_213_919 rfl ?_
      obtain ⟨c191, h⟩ := zz_chk h
      refine ev_sald zo_213_920 c191 rfl ?_
      refine ev_aload_n zo_213_921 rfl rfl rfl rfl ?_
      refine ev_iload_n zo_213_922 rfl rfl rfl ?_
      refine ev_iconst (x := 4) zo_213_923 (by decide) rfl ?_
      refine ev_iadd zo_213_924 rfl ?_
      obtain ⟨c192, h⟩ := zz_chk h
      refine ev_sald zo_213_925 c192 rfl ?_
      refine ev_aload_n zo_213_926 rfl rfl rfl rfl ?_
      refine ev_iload_n zo_213_927 rfl rfl rfl ?_
      refine ev_iconst (x := 5) zo_213_928 (by decide) rfl ?_
      refine ev_iadd zo_213_929 rfl ?_
      obtain ⟨c193, h⟩ := zz_chk h
      refine ev_sald zo_213_930 c193 rfl ?_
      obtain ⟨q194, hq194, h⟩ := zz_bd h
      refine ev_cV (as := [.int (q188.2.2 2000 (l3 + (5 : Int32)).toNatClampNeg), .int (q188.2.2 2000 (l3 + (4 : Int32)).toNatClampNeg), .int (q188.2.2 2000 (l3 + (3 : Int32)).toNatClampNeg), .int (q188.2.2 2000 (l3 + (2 : Int32)).toNatClampNeg), .int (q188.2.2 2000 (l3 + (1 : Int32)).toNatClampNeg)]) (lsn := [.ref 46, .int (q188.2.2 2000 (l3 + (1 : Int32)).toNatClampNeg), .int (q188.2.2 2000 (l3 + (2 : Int32)).toNatClampNeg), .int (q188.2.2 2000 (l3 + (3 : Int32)).toNatClampNeg), .int (q188.2.2 2000 (l3 + (4 : Int32)).toNatClampNeg), .int (q188.2.2 2000 (l3 + (5 : Int32)).toNatClampNeg), zzU, zzU, zzU]) (by omega) zo_213_931 zl_213_122 (by rw [zm_209]; rfl) (by rw [zm_209]; exact rfl) (by rw [zm_209]; decide) (by unfold zzIn; rw [zm_209]; rfl) (by rw [zm_209]; exact Nat.le_of_ble_eq_true rfl) (Nat.le_of_ble_eq_true rfl) (G_X7_copy (by omega) (q188.2.2 2000 (l3 + (1 : Int32)).toNatClampNeg) (q188.2.2 2000 (l3 + (2 : Int32)).toNatClampNeg) (q188.2.2 2000 (l3 + (3 : Int32)).toNatClampNeg) (q188.2.2 2000 (l3 + (4 : Int32)).toNatClampNeg) (q188.2.2 2000 (l3 + (5 : Int32)).toNatClampNeg) q188.2 q194 hq194) rfl ?_
      show zzEv _ _ _ _ [.int q194.1, .int q188.1] _ _
      by_cases c195 : q188.1 = q194.1
      · rw [if_pos c195] at h
        refine ev_cmp_t (t := 1025) zo_213_934 rfl (zcm_eq c195) ?_
        refine ev_iinc (v := 6) zo_213_1025 rfl (by decide) (zz_set rfl (by decide) (Nat.le_of_ble_eq_true rfl)) rfl ?_
        show zzEv _ _ _ [.ref 2000, .ref 0, .ref 46, .int (l3 + 6)] _ _ _
        refine ev_goto (t := 18) zo_213_1028 rfl ?_
        exact ih (l3 + 6) q194.2 r h
      rw [if_neg c195] at h
      refine ev_cmp_f (t := 1025) zo_213_934 rfl (zcm_neq c195) rfl ?_
      refine ev_iconst (x := 0) zo_213_937 (by decide) rfl ?_
      obtain rfl := Option.some.inj h
      exact ev_retZ zo_213_938 zr_213 (Or.inl rfl)
    rw [if_neg s182] at h
    by_cases s196 : ((J.2 2000 l3.toNatClampNeg) &&& (31 : Int32)) = 26
    · rw [if_pos s196] at h
      refine ev_tableIn (t := 939) zo_213_33 s196 rfl ?_
      refine ev_aload_n zo_213_939 rfl rfl rfl rfl ?_
      refine ev_aload_n zo_213_940 rfl rfl rfl rfl ?_
      refine ev_iload_n zo_213_941 rfl rfl rfl ?_
      refine ev_iconst (x := 1) zo_213_942 (by decide) rfl ?_
      refine ev_iadd zo_213_943 rfl ?_
      obtain ⟨c197, h⟩ := zz_chk h
      refine ev_sald zo_213_944 c197 rfl ?_
      refine ev_aload_n zo_213_945 rfl rfl rfl rfl ?_
      refine ev_iload_n zo_213_946 rfl rfl rfl ?_
      refine ev_iconst (x := 2) zo_213_947 (by decide) rfl ?_
      refine ev_iadd zo_213_948 rfl ?_
      obtain ⟨c198, h⟩ := zz_chk h
      refine ev_sald zo_213_949 c198 rfl ?_
      refine ev_aload_n zo_213_950 rfl rfl rfl rfl ?_
      refine ev_iload_n zo_213_951 rfl rfl rfl ?_
      refine ev_iconst (x := 3) zo_213_952 (by decide) rfl ?_
      refine ev_iadd zo_213_953 rfl ?_
      obtain ⟨c199, h⟩ := zz_chk h
      refine ev_sald zo_213_954 c199 rfl ?_
      refine ev_aload_n zo_213_955 rfl rfl rfl rfl ?_
      refine ev_iload_n zo_213_956 rfl rfl rfl ?_
      refine ev_iconst (x := 4) zo_213_957 (by decide) rfl ?_
      refine ev_iadd zo_213_958 rfl ?_
      obtain ⟨c200, h⟩ := zz_chk h
      refine ev_sald zo_213_959 c200 rfl ?_
      obtain ⟨q201, hq201, h⟩ := zz_bd h
      refine ev_cV (as := [.int (J.2 2000 (l3 + (4 : Int32)).toNatClampNeg), .int (J.2 2000 (l3 + (3 : Int32)).toNatClampNeg), .int (J.2 2000 (l3 + (2 : Int32)).toNatClampNeg), .int (J.2 2000 (l3 + (1 : Int32)).toNatClampNeg)]) (lsn := [.ref 0, .int (J.2 2000 (l3 + (1 : Int32)).toNatClampNeg), .int (J.2 2000 (l3 + (2 : Int32)).toNatClampNeg), .int (J.2 2000 (l3 + (3 : Int32)).toNatClampNeg), .int (J.2 2000 (l3 + (4 : Int32)).toNatClampNeg), zzU, zzU, zzU, zzU]) (by omega) zo_213_960 zl_213_123 (by rw [zm_120]; rfl) (by rw [zm_120]; exact rfl) (by rw [zm_120]; decide) (by unfold zzIn; rw [zm_120]; rfl) (by rw [zm_120]; exact Nat.le_of_ble_eq_true rfl) (Nat.le_of_ble_eq_true rfl) (G_X6_passengers (by omega) (J.2 2000 (l3 + (1 : Int32)).toNatClampNeg) (J.2 2000 (l3 + (2 : Int32)).toNatClampNeg) (J.2 2000 (l3 + (3 : Int32)).toNatClampNeg) (J.2 2000 (l3 + (4 : Int32)).toNatClampNeg) J q201 hq201) rfl ?_
      show zzEv _ _ _ _ [.int q201.1] _ _
      refine ev_aload_n zo_213_963 rfl rfl rfl rfl ?_
      refine ev_aload_n zo_213_964 rfl rfl rfl rfl ?_
      refine ev_iload_n zo_213_965 rfl rfl rfl ?_
      refine ev_iconst (x := 1) zo_213_966 (by decide) rfl ?_
      refine ev_iadd zo_213_967 rfl ?_
      obtain ⟨c202, h⟩ := zz_chk h
      refine ev_sald zo_213_968 c202 rfl ?_
      refine ev_aload_n zo_213_969 rfl rfl rfl rfl ?_
      refine ev_iload_n zo_213_970 rfl rfl rfl ?_
      refine ev_iconst (x := 2) zo_213_971 (by decide) rfl ?_
      refine ev_iadd zo_213_972 rfl ?_
      obtain ⟨c203, h⟩ := zz_chk h
      refine ev_sald zo_213_973 c203 rfl ?_
      refine ev_aload_n zo_213_974 rfl rfl rfl rfl ?_
      refine ev_iload_n zo_213_975 rfl rfl rfl ?_
      refine ev_iconst (x := 3) zo_213_976 (by decide) rfl ?_
      refine ev_iadd zo_213_977 rfl ?_
      obtain ⟨c204, h⟩ := zz_chk h
      refine ev_sald zo_213_978 c204 rfl ?_
      refine ev_aload_n zo_213_979 rfl rfl rfl rfl ?_
      refine ev_iload_n zo_213_980 rfl rfl rfl ?_
      refine ev_iconst (x := 4) zo_213_981 (by decide) rfl ?_
      refine ev_iadd zo_213_982 rfl ?_
      obtain ⟨c205, h⟩ := zz_chk h
      refine ev_sald zo_213_983 c205 rfl ?_
      obtain ⟨q206, hq206, h⟩ := zz_bd h
      refine ev_cV (as := [.int (q201.2.2 2000 (l3 + (4 : Int32)).toNatClampNeg), .int (q201.2.2 2000 (l3 + (3 : Int32)).toNatClampNeg), .int (q201.2.2 2000 (l3 + (2 : Int32)).toNatClampNeg), .int (q201.2.2 2000 (l3 + (1 : Int32)).toNatClampNeg)]) (lsn := [.ref 46, .int (q201.2.2 2000 (l3 + (1 : Int32)).toNatClampNeg), .int (q201.2.2 2000 (l3 + (2 : Int32)).toNatClampNeg), .int (q201.2.2 2000 (l3 + (3 : Int32)).toNatClampNeg), .int (q201.2.2 2000 (l3 + (4 : Int32)).toNatClampNeg), zzU, zzU, zzU]) (by omega) zo_213_984 zl_213_127 (by rw [zm_210]; rfl) (by rw [zm_210]; exact rfl) (by rw [zm_210]; decide) (by unfold zzIn; rw [zm_210]; rfl) (by rw [zm_210]; exact Nat.le_of_ble_eq_true rfl) (Nat.le_of_ble_eq_true rfl) (G_X7_passengers (by omega) (q201.2.2 2000 (l3 + (1 : Int32)).toNatClampNeg) (q201.2.2 2000 (l3 + (2 : Int32)).toNatClampNeg) (q201.2.2 2000 (l3 + (3 : Int32)).toNatClampNeg) (q201.2.2 2000 (l3 + (4 : Int32)).toNatClampNeg) q201.2 q206 hq206) rfl ?_
      show zzEv _ _ _ _ [.int q206.1, .int q201.1] _ _
      by_cases c207 : q201.1 = q206.1
      · rw [if_pos c207] at h
        refine ev_cmp_t (t := 1025) zo_213_987 rfl (zcm_eq c207) ?_
        refine ev_iinc (v := 6) zo_213_1025 rfl (by decide) (zz_set rfl (by decide) (Nat.le_of_ble_eq_true rfl)) rfl ?_
        show zzEv _ _ _ [.ref 2000, .ref 0, .ref 46, .int (l3 + 6)] _ _ _
        refine ev_goto (t := 18) zo_213_1028 rfl ?_
        exact ih (l3 + 6) q206.2 r h
      rw [if_neg c207] at h
      refine ev_cmp_f (t := 1025) zo_213_987 rfl (zcm_neq c207) rfl ?_
      refine ev_iconst (x := 0) zo_213_990 (by decide) rfl ?_
      obtain rfl := Option.some.inj h
      exact ev_retZ zo_213_991 zr_213 (Or.inl rfl)
    rw [if_neg s196] at h
    by_cases s208 : ((J.2 2000 l3.toNatClampNeg) &&& (31 : Int32)) = 27
    · rw [if_pos s208] at h
      refine ev_tableIn (t := 992) zo_213_33 s208 rfl ?_
      refine ev_aload_n zo_213_992 rfl rfl rfl rfl ?_
      refine ev_aload_n zo_213_993 rfl rfl rfl rfl ?_
      refine ev_iload_n zo_213_994 rfl rfl rfl ?_
      refine ev_iconst (x := 1) zo_213_995 (by decide) rfl ?_
      refine ev_iadd zo_213_996 rfl ?_
      obtain ⟨c209, h⟩ := zz_chk h
      refine ev_sald zo_213_997 c209 rfl ?_
      refine ev_aload_n zo_213_998 rfl rfl rfl rfl ?_
      refine ev_iload_n zo_213_999 rfl rfl rfl ?_
      refine ev_iconst (x := 2) zo_213_1000 (by decide) rfl ?_
      refine ev_iadd zo_213_1001 rfl ?_
      obtain ⟨c210, h⟩ := zz_chk h
      refine ev_sald zo_213_1002 c210 rfl ?_
      obtain ⟨q211, hq211, h⟩ := zz_bd h
      refine ev_cV (as := [.int (J.2 2000 (l3 + (2 : Int32)).toNatClampNeg), .int (J.2 2000 (l3 + (1 : Int32)).toNatClampNeg)]) (lsn := [.ref 0, .int (J.2 2000 (l3 + (1 : Int32)).toNatClampNeg), .int (J.2 2000 (l3 + (2 : Int32)).toNatClampNeg)]) (by omega) zo_213_1003 zl_213_128 (by rw [zm_121]; rfl) (by rw [zm_121]; exact rfl) (by rw [zm_121]; decide) (by unfold zzIn; rw [zm_121]; rfl) (by rw [zm_121]; exact Nat.le_of_ble_eq_true rfl) (Nat.le_of_ble_eq_true rfl) (G_X6_taken (by omega) (J.2 2000 (l3 + (1 : Int32)).toNatClampNeg) (J.2 2000 (l3 + (2 : Int32)).toNatClampNeg) J q211 hq211) rfl ?_
      show zzEv _ _ _ _ [.int q211.1] _ _
      refine ev_aload_n zo_213_1006 rfl rfl rfl rfl ?_
      refine ev_aload_n zo_213_1007 rfl rfl rfl rfl ?_
      refine ev_iload_n zo_213_1008 rfl rfl rfl ?_
      refine ev_iconst (x := 1) zo_213_1009 (by decide) rfl ?_
      refine ev_iadd zo_213_1010 rfl ?_
      obtain ⟨c212, h⟩ := zz_chk h
      refine ev_sald zo_213_1011 c212 rfl ?_
      refine ev_aload_n zo_213_1012 rfl rfl rfl rfl ?_
      refine ev_iload_n zo_213_1013 rfl rfl rfl ?_
      refine ev_iconst (x := 2) zo_213_1014 (by decide) rfl ?_
      refine ev_iadd zo_213_1015 rfl ?_
      obtain ⟨c213, h⟩ := zz_chk h
      refine ev_sald zo_213_1016 c213 rfl ?_
      obtain ⟨q214, hq214, h⟩ := zz_bd h
      refine ev_cV (as := [.int (q211.2.2 2000 (l3 + (2 : Int32)).toNatClampNeg), .int (q211.2.2 2000 (l3 + (1 : Int32)).toNatClampNeg)]) (lsn := [.ref 46, .int (q211.2.2 2000 (l3 + (1 : Int32)).toNatClampNeg), .int (q211.2.2 2000 (l3 + (2 : Int32)).toNatClampNeg), zzU]) (by omega) zo_213_1017 zl_213_131 (by rw [zm_212]; rfl) (by rw [zm_212]; exact rfl) (by rw [zm_212]; decide) (by unfold zzIn; rw [zm_212]; rfl) (by rw [zm_212]; exact Nat.le_of_ble_eq_true rfl) (Nat.le_of_ble_eq_true rfl) (G_X7_taken (by omega) (q211.2.2 2000 (l3 + (1 : Int32)).toNatClampNeg) (q211.2.2 2000 (l3 + (2 : Int32)).toNatClampNeg) q211.2 q214 hq214) rfl ?_
      show zzEv _ _ _ _ [.int q214.1, .int q211.1] _ _
      by_cases c215 : q211.1 = q214.1
      · rw [if_pos c215] at h
        refine ev_cmp_t (t := 1025) zo_213_1020 rfl (zcm_eq c215) ?_
        refine ev_iinc (v := 6) zo_213_1025 rfl (by decide) (zz_set rfl (by decide) (Nat.le_of_ble_eq_true rfl)) rfl ?_
        show zzEv _ _ _ [.ref 2000, .ref 0, .ref 46, .int (l3 + 6)] _ _ _
        refine ev_goto (t := 18) zo_213_1028 rfl ?_
        exact ih (l3 + 6) q214.2 r h
      rw [if_neg c215] at h
      refine ev_cmp_f (t := 1025) zo_213_1020 rfl (zcm_neq c215) rfl ?_
      refine ev_iconst (x := 0) zo_213_1023 (by decide) rfl ?_
      obtain rfl := Option.some.inj h
      exact ev_retZ zo_213_1024 zr_213 (Or.inl rfl)
    rw [if_neg s208] at h
    refine ev_tableOut (t := 1025) zo_213_33 (sw_out 28 rfl fun k hk => ?_) rfl ?_
    · rcases (show k = 0 ∨ k = 1 ∨ k = 2 ∨ k = 3 ∨ k = 4 ∨ k = 5 ∨ k = 6 ∨ k = 7 ∨ k = 8 ∨ k = 9 ∨ k = 10 ∨ k = 11 ∨ k = 12 ∨ k = 13 ∨ k = 14 ∨ k = 15 ∨ k = 16 ∨ k = 17 ∨ k = 18 ∨ k = 19 ∨ k = 20 ∨ k = 21 ∨ k = 22 ∨ k = 23 ∨ k = 24 ∨ k = 25 ∨ k = 26 ∨ k = 27 by omega) with rfl | rfl | rfl | rfl | rfl | rfl | rfl | rfl | rfl | rfl | rfl | rfl | rfl | rfl | rfl | rfl | rfl | rfl | rfl | rfl | rfl | rfl | rfl | rfl | rfl | rfl | rfl | rfl
      · exact sw_ne s4 (by decide)
      · exact sw_ne s14 (by decide)
      · exact sw_ne s22 (by decide)
      · exact sw_ne s30 (by decide)
      · exact sw_ne s38 (by decide)
      · exact sw_ne s44 (by decide)
      · exact sw_ne s50 (by decide)
      · exact sw_ne s54 (by decide)
      · exact sw_ne s60 (by decide)
      · exact sw_ne s66 (by decide)
      · exact sw_ne s74 (by decide)
      · exact sw_ne s82 (by decide)
      · exact sw_ne s88 (by decide)
      · exact sw_ne s94 (by decide)
      · exact sw_ne s102 (by decide)
      · exact sw_ne s110 (by decide)
      · exact sw_ne s118 (by decide)
      · exact sw_ne s126 (by decide)
      · exact sw_ne s132 (by decide)
      · exact sw_ne s138 (by decide)
      · exact sw_ne s148 (by decide)
      · exact sw_ne s152 (by decide)
      · exact sw_ne s156 (by decide)
      · exact sw_ne s162 (by decide)
      · exact sw_ne s172 (by decide)
      · exact sw_ne s182 (by decide)
      · exact sw_ne s196 (by decide)
      · exact sw_ne s208 (by decide)
    refine ev_iinc (v := 6) zo_213_1025 rfl (by decide) (zz_set rfl (by decide) (Nat.le_of_ble_eq_true rfl)) rfl ?_
    show zzEv _ _ _ [.ref 2000, .ref 0, .ref 46, .int (l3 + 6)] _ _ _
    refine ev_goto (t := 18) zo_213_1028 rfl ?_
    exact ih (l3 + 6) J r h
