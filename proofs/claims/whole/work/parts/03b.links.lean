/-! the links (written by wip/whole/gen1.py) -/
def zzDv (t : Nat) : Value := match t with | 3 => .null | 2 => .long 0 | _ => .int 0
set_option maxRecDepth 100000 in
theorem zzTy_a : ∀ c, c < 8 → ∀ k, k < zzN c → (parseFieldDescriptor (zzTf c k).2.2.1 = some (zzTy c k)) := by decide +kernel
set_option maxRecDepth 100000 in
theorem zzTy_b : ∀ c, c < 8 → ∀ k, k < zzN c → (zzT c k = 0 → zzTy c k = .int) := by decide +kernel
set_option maxRecDepth 100000 in
theorem zzTy_c : ∀ c, c < 8 → ∀ k, k < zzN c → (zzT c k = 1 → zzTy c k = .boolean) := by decide +kernel
set_option maxRecDepth 100000 in
theorem zzTy_d : ∀ c, c < 8 → ∀ k, k < zzN c → (zzT c k = 2 → zzTy c k = .long) := by decide +kernel
set_option maxRecDepth 100000 in
theorem zzTy_e : ∀ c, c < 8 → ∀ k, k < zzN c → (zzT c k = 3 → fits (zzTy c k) (.ref 0) = true) := by decide +kernel
set_option maxRecDepth 100000 in
theorem zzTy_f : ∀ c, c < 8 → ∀ k, k < zzN c → (zzT c k = 3 → fits (zzTy c k) .null = true) := by decide +kernel
set_option maxRecDepth 100000 in
theorem zzTy_g : ∀ c, c < 8 → ∀ k, k < zzN c → (zzT c k = 3 → narrow (zzTy c k) .null = .null) := by decide +kernel
set_option maxRecDepth 100000 in
theorem zzTy_h : ∀ c, c < 8 → ∀ k, k < zzN c → ((zzTf c k).2.2.2 = zzFin c k) := by decide +kernel
set_option maxRecDepth 100000 in
theorem zzTy_i : ∀ c, c < 8 → ∀ k, k < zzN c → ((zzTf c k).1 = zzR c) := by decide +kernel
set_option maxRecDepth 100000 in
theorem zzTy_j : ∀ c, c < 8 → ∀ k, k < zzN c → (defaultValue (zzTy c k) = zzDv (zzT c k)) := by decide +kernel
theorem zzTy_ok : ∀ c, c < 8 → ∀ k, k < zzN c → parseFieldDescriptor (zzTf c k).2.2.1 = some (zzTy c k) ∧ (zzT c k = 0 → zzTy c k = .int) ∧ (zzT c k = 1 → zzTy c k = .boolean) ∧ (zzT c k = 2 → zzTy c k = .long) ∧ (zzT c k = 3 → fits (zzTy c k) (.ref 0) = true ∧ fits (zzTy c k) .null = true ∧ narrow (zzTy c k) .null = .null) ∧ (zzTf c k).2.2.2 = zzFin c k ∧ (zzTf c k).1 = zzR c ∧ defaultValue (zzTy c k) = zzDv (zzT c k) := fun c hc k hk => ⟨zzTy_a c hc k hk, zzTy_b c hc k hk, zzTy_c c hc k hk, zzTy_d c hc k hk, fun h => ⟨zzTy_e c hc k hk h, zzTy_f c hc k hk h, zzTy_g c hc k hk h⟩, zzTy_h c hc k hk, zzTy_i c hc k hk, zzTy_j c hc k hk⟩
theorem zzNm_ok : ∀ c, c < 8 → ∀ a, a < zzN c → ∀ b, b < zzN c → a ≠ b → (zzTf c a).2.1 ≠ (zzTf c b).2.1 := by
  intro c hc
  match c, hc with
  | 0, _ => exact nmX0
  | 1, _ => exact nmX1
  | 2, _ => exact nmX2
  | 3, _ => exact nmX3
  | 4, _ => exact nmX4
  | 5, _ => exact nmX5
  | 6, _ => exact nmX6
  | 7, _ => exact nmX7
set_option maxRecDepth 100000 in
theorem zzUw_0 : ∀ w ∈ u_ws RX0 TX0 11, w ∈ lw_tbl ∧ goodWord w = true := zzPos [182, 184, 186, 188, 190, 192, 194, 196, 198, 200, 202] (by decide +kernel) (by decide +kernel)
set_option maxRecDepth 100000 in
theorem zzUw_1 : ∀ w ∈ u_ws RX1 TX1 6, w ∈ lw_tbl ∧ goodWord w = true := zzPos [249, 251, 253, 255, 257, 259] (by decide +kernel) (by decide +kernel)
set_option maxRecDepth 100000 in
theorem zzUw_2 : ∀ w ∈ u_ws RX2 TX2 7, w ∈ lw_tbl ∧ goodWord w = true := zzPos [137, 139, 141, 143, 145, 147, 149] (by decide +kernel) (by decide +kernel)
set_option maxRecDepth 100000 in
theorem zzUw_3 : ∀ w ∈ u_ws RX3 TX3 7, w ∈ lw_tbl ∧ goodWord w = true := zzPos [220, 222, 224, 226, 228, 230, 232] (by decide +kernel) (by decide +kernel)
set_option maxRecDepth 100000 in
theorem zzUw_4 : ∀ w ∈ u_ws RX4 TX4 3, w ∈ lw_tbl ∧ goodWord w = true := zzPos [276, 278, 280] (by decide +kernel) (by decide +kernel)
set_option maxRecDepth 100000 in
theorem zzUw_5 : ∀ w ∈ u_ws RX5 TX5 5, w ∈ lw_tbl ∧ goodWord w = true := zzPos [111, 113, 115, 117, 119] (by decide +kernel) (by decide +kernel)
set_option maxRecDepth 100000 in
theorem zzUw_6 : ∀ w ∈ u_ws RX6 TX6 9, w ∈ lw_tbl ∧ goodWord w = true := zzPos [458, 460, 462, 464, 466, 468, 470, 472, 474] (by decide +kernel) (by decide +kernel)
set_option maxRecDepth 100000 in
theorem zzUw_7 : ∀ w ∈ u_ws RX7 TX7 52, w ∈ lw_tbl ∧ goodWord w = true := zzPos [972, 974, 976, 978, 980, 982, 984, 986, 988, 990, 992, 994, 996, 998, 1000, 1002, 1004, 1006, 1008, 1010, 1012, 1014, 1016, 1018, 1020, 1022, 1024, 1026, 1028, 1030, 1032, 1034, 1036, 1038, 1040, 1042, 1044, 1046, 1048, 1050, 1052, 1054, 1056, 1058, 1060, 1062, 1064, 1066, 1068, 1070, 1072, 1074] (by decide +kernel) (by decide +kernel)
theorem zzUw : ∀ c, c < 8 → ∀ w ∈ u_ws (zzR c) (zzTf c) (zzN c), w ∈ lw_tbl ∧ goodWord w = true := by
  intro c hc
  match c, hc with
  | 0, _ => exact zzUw_0
  | 1, _ => exact zzUw_1
  | 2, _ => exact zzUw_2
  | 3, _ => exact zzUw_3
  | 4, _ => exact zzUw_4
  | 5, _ => exact zzUw_5
  | 6, _ => exact zzUw_6
  | 7, _ => exact zzUw_7
theorem zzUW {c : Nat} (h : c < 8) : ∀ w ∈ u_ws (zzR c) (zzTf c) (zzN c), w ∈ ZW := fun w hw => ZW_of (zzUw c h w hw).1 (zzUw c h w hw).2
theorem zzFLr : ∀ r ∈ zzFL, r.2.1 < 8 ∧ r.2.2 < zzN r.2.1 := by decide +kernel
theorem zzNC : ∀ c, c < 8 → zzN c ≤ 60 := by decide +kernel
set_option maxRecDepth 100000 in
theorem zzKIwL : ∀ w ∈ zzKI.map (fun r => Jvm.Cond.constant (zzR r.1.1) r.1.2 r.2), w ∈ lw_tbl ∧ goodWord w = true := zzPos [640, 848, 1251, 1359] (by decide +kernel) (by decide +kernel)
theorem zzKIw : ∀ r ∈ zzKI, Jvm.Cond.constant (zzR r.1.1) r.1.2 r.2 ∈ lw_tbl ∧ goodWord (Jvm.Cond.constant (zzR r.1.1) r.1.2 r.2) = true := fun r hr => zzKIwL _ (List.mem_map.mpr ⟨r, hr, rfl⟩)
set_option maxRecDepth 100000 in
theorem zzKLwL : ∀ w ∈ zzKL.map (fun r => Jvm.Cond.constantLong (zzR r.1.1) r.1.2 r.2), w ∈ lw_tbl ∧ goodWord w = true := zzPos [854, 1082, 1094, 1095, 1096, 1141, 1142, 1143, 1144, 1145, 1198, 1199, 1215, 1223, 1237, 1250, 1268, 1308, 1333, 1350, 1364, 1365, 1378, 1392] (by decide +kernel) (by decide +kernel)
theorem zzKLw : ∀ r ∈ zzKL, Jvm.Cond.constantLong (zzR r.1.1) r.1.2 r.2 ∈ lw_tbl ∧ goodWord (Jvm.Cond.constantLong (zzR r.1.1) r.1.2 r.2) = true := fun r hr => zzKLwL _ (List.mem_map.mpr ⟨r, hr, rfl⟩)
set_option maxRecDepth 100000 in
theorem zzCLwL : ∀ w ∈ zzCL.map (fun r => Jvm.Cond.classLink (zzR r.1.1) r.1.2 (zzR r.2)), w ∈ lw_tbl ∧ goodWord w = true := zzPos [91, 99, 123, 152, 205, 235, 262, 911] (by decide +kernel) (by decide +kernel)
theorem zzCLw : ∀ r ∈ zzCL, Jvm.Cond.classLink (zzR r.1.1) r.1.2 (zzR r.2) ∈ lw_tbl ∧ goodWord (Jvm.Cond.classLink (zzR r.1.1) r.1.2 (zzR r.2)) = true := fun r hr => zzCLwL _ (List.mem_map.mpr ⟨r, hr, rfl⟩)
set_option maxRecDepth 100000 in
theorem zzCLn : ∀ r ∈ zzCL, r.2 < 8 := by decide +kernel
set_option maxRecDepth 100000 in
theorem zzCLjL : ∀ w ∈ zzCL.map (fun r => Jvm.Cond.instantiable (zzR r.2) (zzN r.2)), w ∈ lw_tbl ∧ goodWord w = true := zzPos [92, 100, 124, 153, 206, 236, 264, 912] (by decide +kernel) (by decide +kernel)
theorem zzCLj : ∀ r ∈ zzCL, Jvm.Cond.instantiable (zzR r.2) (zzN r.2) ∈ lw_tbl ∧ goodWord (Jvm.Cond.instantiable (zzR r.2) (zzN r.2)) = true := fun r hr => zzCLjL _ (List.mem_map.mpr ⟨r, hr, rfl⟩)
set_option maxRecDepth 100000 in
theorem zzCLkL : ∀ w ∈ zzCL.map (fun r => Jvm.Cond.initialized (zzR r.2)), w ∈ lw_tbl ∧ goodWord w = true := zzPos [78, 79, 80, 81, 82, 83, 84, 89] (by decide +kernel) (by decide +kernel)
theorem zzCLk : ∀ r ∈ zzCL, Jvm.Cond.initialized (zzR r.2) ∈ lw_tbl ∧ goodWord (Jvm.Cond.initialized (zzR r.2)) = true := fun r hr => zzCLkL _ (List.mem_map.mpr ⟨r, hr, rfl⟩)
theorem zzCLi : ∀ r ∈ zzCL, r.2 < 8 ∧ (Jvm.Cond.instantiable (zzR r.2) (zzN r.2) ∈ lw_tbl ∧ goodWord (Jvm.Cond.instantiable (zzR r.2) (zzN r.2)) = true) ∧ (Jvm.Cond.initialized (zzR r.2) ∈ lw_tbl ∧ goodWord (Jvm.Cond.initialized (zzR r.2)) = true) := fun r hr => ⟨zzCLn r hr, zzCLj r hr, zzCLk r hr⟩
/-- what a call wants of the words, by its kind -/
def zzMLc (r : (Nat × Nat) × Nat × Nat) : List Cond := match r.2.1 with
  | 0 => [.methodLink (zzR r.1.1) r.1.2 (zzM r.2.2).1, .static (zzM r.2.2).1, .initialized (zzM r.2.2).1.cls]
  | 1 => [.static (zzM r.2.2).1, .initialized (zzM r.2.2).1.cls]
  | 2 => [.methodLink (zzR r.1.1) r.1.2 (zzM r.2.2).1, .instanceMethod (zzM r.2.2).1, .selects (zzR (zzM r.2.2).2.2.2.2.1) (zzM r.2.2).1 (zzM r.2.2).1, .initialized (zzM r.2.2).1.cls]
  | 3 => [.methodLink (zzR r.1.1) r.1.2 (zzM r.2.2).1, .instanceMethod (zzM r.2.2).1, .initialized (zzM r.2.2).1.cls]
  | 4 => [.methodLink (zzR r.1.1) r.1.2 objectInit, .instanceMethod objectInit, .code objectInit ⟨#[0xb1]⟩ 1 none]
  | 5 => [.methodLink (zzR r.1.1) r.1.2 arraycopyName, .native arraycopyName, .static arraycopyName, .initialized "java/lang/System"]
  | 6 => [.methodLink (zzR r.1.1) r.1.2 yJ0_length_8abf5, .instanceMethod yJ0_length_8abf5, .selects RJ0 yJ0_length_8abf5 yJ0_length_8abf5, .initialized RJ0]
  | _ => [.methodLink (zzR r.1.1) r.1.2 yJ0_charAt_5068e, .instanceMethod yJ0_charAt_5068e, .selects RJ0 yJ0_charAt_5068e yJ0_charAt_5068e, .initialized RJ0]
def zzML_0 : List ((Nat × Nat) × Nat × Nat) := [((8, 9), 3, 81), ((6, 3), 4, 0), ((6, 11), 3, 74), ((5, 3), 4, 0), ((6, 18), 3, 39), ((2, 3), 4, 0), ((6, 27), 3, 0), ((0, 3), 4, 0), ((0, 44), 1, 128), ((6, 44), 3, 61), ((3, 3), 4, 0), ((6, 51), 3, 29), ((1, 3), 4, 0), ((6, 62), 3, 67), ((4, 3), 4, 0), ((6, 65), 6, 0), ((6, 71), 7, 0), ((6, 75), 2, 40), ((2, 26), 1, 126), ((6, 79), 2, 41), ((2, 33), 2, 75), ((2, 38), 2, 51), ((2, 85), 2, 57), ((2, 149), 1, 125), ((2, 89), 0, 58), ((2, 92), 0, 59), ((2, 95), 2, 52), ((2, 107), 0, 54), ((2, 111), 2, 53), ((2, 115), 6, 0), ((2, 121), 7, 0), ((2, 54), 2, 50), ((2, 98), 0, 60), ((2, 101), 2, 55), ((2, 104), 2, 56), ((2, 41), 2, 49), ((2, 45), 2, 42), ((2, 60), 2, 43), ((2, 66), 2, 44), ((2, 69), 2, 48), ((2, 63), 2, 76), ((5, 28), 1, 126), ((2, 73), 2, 45), ((2, 76), 2, 46), ((2, 79), 2, 47), ((2, 48), 2, 77), ((2, 57), 2, 78), ((8, 13), 2, 82), ((6, 82), 2, 83), ((6, 86), 2, 2), ((6, 94), 0, 127), ((6, 179), 0, 125), ((6, 268), 0, 126), ((8, 18), 2, 84), ((6, 111), 2, 3), ((0, 55), 1, 126), ((8, 23), 2, 85), ((6, 114), 2, 9), ((6, 117), 2, 7), ((6, 120), 2, 11), ((0, 63), 2, 7), ((8, 27), 2, 86), ((6, 124), 2, 5), ((0, 59), 1, 125), ((6, 127), 2, 6), ((6, 130), 2, 4), ((6, 133), 2, 21), ((0, 77), 2, 8), ((0, 116), 2, 20), ((0, 93), 2, 5), ((0, 96), 2, 17), ((0, 84), 1, 130), ((0, 67), 2, 9), ((0, 87), 1, 131), ((0, 99), 2, 6), ((0, 102), 2, 16), ((0, 106), 2, 79), ((5, 32), 1, 125), ((5, 36), 0, 80), ((0, 112), 1, 135), ((0, 119), 2, 4), ((0, 122), 2, 18), ((0, 81), 2, 19), ((0, 90), 2, 2), ((0, 125), 1, 132), ((6, 136), 2, 22), ((0, 129), 1, 133), ((6, 139), 2, 17), ((6, 142), 2, 18), ((8, 31), 2, 87)]
set_option maxRecDepth 100000 in
theorem zzMLv_0 : ∀ w ∈ zzML_0.flatMap zzMLc, w ∈ lw_tbl ∧ goodWord w = true := zzPos [93, 94, 78, 96, 97, 98, 101, 102, 79, 104, 97, 98, 125, 126, 80, 128, 97, 98, 154, 155, 81, 157, 97, 98, 159, 78, 207, 208, 82, 210, 97, 98, 237, 238, 83, 240, 97, 98, 265, 266, 84, 268, 97, 98, 284, 285, 286, 85, 294, 295, 296, 85, 332, 333, 334, 80, 337, 78, 339, 340, 341, 80, 343, 344, 345, 79, 347, 349, 0, 80, 351, 353, 1, 80, 356, 78, 358, 359, 80, 361, 362, 80, 364, 366, 2, 80, 368, 369, 80, 383, 385, 3, 80, 387, 285, 286, 85, 388, 295, 296, 85, 389, 391, 4, 80, 393, 394, 80, 396, 398, 5, 80, 400, 402, 6, 80, 404, 406, 7, 80, 408, 410, 8, 80, 412, 414, 9, 80, 416, 418, 10, 80, 420, 422, 11, 80, 424, 425, 426, 79, 337, 78, 429, 431, 12, 80, 433, 435, 13, 80, 437, 439, 14, 80, 441, 442, 443, 79, 445, 446, 447, 79, 478, 479, 480, 78, 482, 484, 15, 78, 486, 487, 488, 81, 490, 491, 78, 493, 356, 78, 494, 337, 78, 495, 496, 497, 78, 499, 500, 501, 81, 337, 78, 504, 505, 506, 78, 508, 509, 510, 81, 512, 513, 514, 81, 516, 517, 518, 81, 520, 513, 514, 81, 521, 522, 523, 78, 525, 526, 527, 81, 356, 78, 530, 531, 532, 81, 534, 535, 536, 81, 538, 539, 540, 81, 542, 543, 544, 81, 546, 547, 548, 81, 550, 526, 527, 81, 551, 552, 553, 81, 556, 78, 558, 509, 510, 81, 560, 78, 562, 531, 532, 81, 563, 564, 565, 81, 567, 568, 569, 79, 356, 78, 572, 573, 79, 576, 78, 578, 535, 536, 81, 579, 580, 581, 81, 583, 584, 585, 81, 587, 487, 488, 81, 589, 78, 591, 592, 593, 81, 596, 78, 598, 552, 553, 81, 599, 580, 581, 81, 600, 601, 602, 78] (by decide +kernel) (by decide +kernel)
theorem zzMLw_0 : ∀ r ∈ zzML_0, ∀ w ∈ zzMLc r, w ∈ lw_tbl ∧ goodWord w = true := fun r hr w hw => zzMLv_0 w (List.mem_flatMap.mpr ⟨r, hr, hw⟩)
def zzML_1 : List ((Nat × Nat) × Nat × Nat) := [((8, 36), 2, 88), ((8, 40), 2, 89), ((8, 45), 2, 90), ((8, 49), 2, 91), ((6, 150), 2, 24), ((0, 136), 2, 21), ((6, 153), 2, 25), ((0, 139), 2, 23), ((0, 132), 1, 134), ((6, 156), 2, 27), ((8, 53), 2, 92), ((6, 160), 0, 93), ((6, 163), 2, 62), ((3, 41), 2, 22), ((3, 44), 1, 126), ((6, 167), 2, 63), ((3, 48), 1, 128), ((3, 52), 2, 64), ((3, 56), 1, 125), ((3, 60), 2, 65), ((6, 170), 2, 66), ((8, 57), 2, 94), ((6, 183), 0, 100), ((6, 186), 2, 10), ((6, 190), 2, 101), ((6, 216), 2, 1), ((0, 51), 1, 129), ((6, 303), 5, 0), ((8, 61), 2, 95), ((6, 193), 2, 8), ((6, 196), 2, 102), ((6, 236), 2, 12), ((0, 70), 2, 11), ((8, 65), 2, 96), ((6, 199), 2, 15), ((6, 202), 2, 19), ((6, 205), 2, 16), ((8, 69), 2, 97), ((6, 208), 2, 124), ((6, 212), 2, 30), ((1, 21), 2, 69), ((1, 32), 2, 72), ((4, 26), 1, 125), ((1, 36), 1, 126), ((1, 40), 2, 31), ((1, 48), 1, 125), ((1, 44), 2, 32), ((1, 52), 2, 2), ((1, 58), 2, 9), ((1, 61), 2, 33), ((6, 220), 2, 34), ((1, 64), 2, 35), ((1, 84), 2, 11), ((1, 68), 2, 25), ((1, 75), 2, 36), ((1, 81), 2, 37), ((1, 88), 2, 38), ((8, 73), 2, 98), ((6, 229), 2, 14), ((0, 74), 2, 13), ((6, 232), 2, 103), ((8, 77), 2, 99), ((8, 81), 2, 104), ((6, 239), 2, 69), ((6, 247), 2, 108), ((6, 255), 2, 28), ((0, 142), 2, 72), ((6, 251), 2, 109), ((6, 259), 2, 105), ((6, 262), 2, 106), ((6, 265), 2, 107), ((8, 85), 2, 110), ((6, 272), 2, 68), ((4, 22), 1, 128), ((6, 275), 2, 73), ((4, 30), 1, 126), ((8, 89), 2, 111), ((6, 279), 2, 13), ((8, 93), 2, 112), ((6, 284), 2, 111), ((6, 287), 0, 113), ((8, 98), 2, 114), ((8, 102), 2, 115), ((8, 106), 2, 116), ((6, 290), 2, 26), ((8, 110), 2, 117), ((8, 114), 2, 118), ((6, 293), 2, 70), ((8, 118), 2, 119), ((6, 297), 2, 71)]
set_option maxRecDepth 100000 in
theorem zzMLv_1 : ∀ w ∈ zzML_1.flatMap zzMLc, w ∈ lw_tbl ∧ goodWord w = true := zzPos [604, 605, 606, 78, 608, 609, 610, 78, 612, 613, 614, 78, 616, 617, 618, 78, 620, 621, 622, 81, 624, 539, 540, 81, 625, 626, 627, 81, 629, 630, 631, 81, 634, 78, 636, 637, 638, 81, 641, 642, 643, 78, 645, 646, 78, 648, 649, 650, 82, 652, 592, 593, 81, 337, 78, 654, 655, 656, 82, 159, 78, 659, 661, 16, 82, 356, 78, 664, 666, 17, 82, 668, 669, 670, 82, 672, 673, 674, 78, 676, 677, 78, 679, 680, 681, 81, 683, 685, 18, 78, 687, 688, 689, 81, 692, 78, 694, 696, 695, 90, 697, 698, 699, 78, 701, 543, 544, 81, 702, 704, 19, 78, 706, 707, 708, 81, 710, 517, 518, 81, 711, 712, 713, 78, 715, 716, 717, 81, 719, 584, 585, 81, 720, 564, 565, 81, 721, 722, 723, 78, 725, 727, 20, 78, 729, 730, 731, 83, 733, 734, 735, 84, 737, 738, 739, 84, 356, 78, 337, 78, 743, 745, 21, 83, 356, 78, 748, 750, 22, 83, 752, 487, 488, 81, 753, 509, 510, 81, 754, 756, 23, 83, 758, 759, 760, 83, 762, 764, 24, 83, 766, 517, 518, 81, 767, 626, 627, 81, 768, 770, 25, 83, 772, 774, 26, 83, 776, 778, 27, 83, 780, 781, 782, 78, 784, 785, 786, 81, 788, 789, 790, 81, 792, 794, 28, 78, 796, 797, 798, 78, 800, 801, 802, 78, 804, 734, 735, 84, 805, 807, 29, 78, 809, 810, 811, 81, 813, 738, 739, 84, 814, 816, 30, 78, 818, 820, 31, 78, 822, 824, 32, 78, 826, 828, 33, 78, 830, 831, 832, 78, 834, 835, 836, 84, 159, 78, 839, 840, 841, 84, 337, 78, 844, 845, 846, 78, 849, 789, 790, 81, 850, 851, 852, 78, 855, 845, 846, 78, 856, 857, 78, 859, 860, 861, 78, 863, 864, 865, 78, 867, 868, 869, 78, 871, 872, 873, 81, 875, 876, 877, 78, 879, 880, 881, 78, 883, 884, 885, 84, 887, 888, 889, 78, 891, 892, 893, 84] (by decide +kernel) (by decide +kernel)
theorem zzMLw_1 : ∀ r ∈ zzML_1, ∀ w ∈ zzMLc r, w ∈ lw_tbl ∧ goodWord w = true := fun r hr w hw => zzMLv_1 w (List.mem_flatMap.mpr ⟨r, hr, hw⟩)
def zzML_2 : List ((Nat × Nat) × Nat × Nat) := [((8, 123), 2, 120), ((6, 309), 2, 72), ((6, 312), 2, 84), ((8, 128), 2, 121), ((6, 315), 0, 122), ((6, 318), 0, 123), ((8, 12), 3, 138), ((7, 7), 4, 0), ((7, 78), 2, 139), ((8, 17), 2, 143), ((7, 88), 0, 136), ((7, 94), 2, 140), ((7, 106), 2, 142), ((7, 110), 2, 148), ((7, 133), 2, 175), ((7, 143), 2, 172), ((7, 265), 2, 169), ((7, 268), 2, 171), ((7, 278), 2, 174), ((7, 140), 2, 170), ((7, 271), 2, 173), ((7, 262), 2, 166), ((7, 200), 2, 152), ((7, 160), 2, 151), ((7, 203), 2, 155), ((7, 190), 2, 154), ((7, 258), 2, 165), ((7, 197), 2, 153), ((7, 236), 2, 164), ((7, 255), 2, 163), ((7, 247), 2, 162), ((7, 228), 2, 157), ((7, 250), 2, 161), ((7, 242), 2, 160), ((7, 232), 2, 159), ((7, 225), 2, 156), ((7, 239), 2, 158), ((7, 274), 0, 137), ((7, 137), 2, 176), ((7, 114), 2, 144), ((8, 22), 2, 145), ((8, 26), 2, 147), ((7, 126), 0, 141), ((7, 129), 2, 146), ((8, 30), 2, 148), ((8, 35), 2, 149), ((8, 39), 2, 150), ((8, 44), 2, 167), ((8, 48), 2, 168), ((8, 52), 2, 180), ((7, 287), 2, 178), ((7, 290), 2, 179), ((7, 281), 2, 177), ((8, 56), 2, 182), ((7, 301), 2, 181), ((8, 60), 2, 183), ((8, 64), 2, 186), ((7, 313), 2, 185), ((7, 310), 2, 184), ((8, 68), 2, 188), ((7, 316), 2, 187), ((8, 72), 2, 193), ((7, 334), 0, 206), ((7, 337), 2, 189), ((7, 340), 2, 191), ((7, 330), 2, 190), ((7, 343), 2, 192), ((8, 76), 2, 194), ((8, 80), 2, 195), ((8, 84), 2, 198), ((7, 346), 2, 196), ((7, 351), 2, 197), ((8, 88), 2, 199), ((7, 354), 2, 207), ((8, 92), 2, 201), ((7, 358), 2, 200), ((8, 97), 2, 202), ((8, 101), 2, 203), ((8, 105), 2, 204), ((8, 109), 2, 205), ((8, 113), 2, 207), ((8, 117), 2, 208), ((8, 122), 2, 209), ((8, 127), 2, 210), ((7, 380), 2, 145), ((8, 131), 2, 212), ((7, 383), 0, 211)]
set_option maxRecDepth 100000 in
theorem zzMLv_2 : ∀ w ∈ zzML_2.flatMap zzMLc, w ∈ lw_tbl ∧ goodWord w = true := zzPos [895, 896, 897, 78, 899, 738, 739, 84, 900, 496, 497, 78, 901, 902, 903, 78, 905, 906, 78, 908, 909, 78, 913, 914, 89, 916, 97, 98, 917, 919, 34, 89, 1078, 1079, 1080, 89, 1083, 1084, 89, 1086, 1088, 35, 89, 1090, 1092, 36, 89, 1097, 1098, 1099, 89, 1101, 1103, 37, 89, 1105, 1107, 38, 89, 1109, 1111, 39, 89, 1113, 1115, 40, 89, 1117, 1119, 41, 89, 1121, 1123, 42, 89, 1125, 1127, 43, 89, 1129, 1131, 44, 89, 1133, 1135, 45, 89, 1137, 1139, 46, 89, 1146, 1148, 47, 89, 1150, 1152, 48, 89, 1154, 1156, 49, 89, 1158, 1160, 50, 89, 1162, 1164, 51, 89, 1166, 1168, 52, 89, 1170, 1172, 53, 89, 1174, 1176, 54, 89, 1178, 1180, 55, 89, 1182, 1184, 56, 89, 1186, 1188, 57, 89, 1190, 1192, 58, 89, 1194, 1196, 59, 89, 1200, 1201, 89, 1203, 1205, 60, 89, 1207, 1209, 61, 89, 1211, 1212, 1213, 89, 1216, 1217, 1218, 89, 1220, 1221, 89, 1224, 1226, 62, 89, 1228, 1098, 1099, 89, 1229, 1230, 1231, 89, 1233, 1234, 1235, 89, 1238, 1239, 1240, 89, 1242, 1243, 1244, 89, 1246, 1247, 1248, 89, 1252, 1254, 63, 89, 1256, 1258, 64, 89, 1260, 1262, 65, 89, 1264, 1265, 1266, 89, 1269, 1271, 66, 89, 1273, 1274, 1275, 89, 1277, 1278, 1279, 89, 1281, 1283, 67, 89, 1285, 1287, 68, 89, 1289, 1290, 1291, 89, 1293, 1295, 69, 89, 1297, 1298, 1299, 89, 1301, 1302, 89, 1304, 1306, 70, 89, 1309, 1311, 71, 89, 1313, 1315, 72, 89, 1317, 1319, 73, 89, 1321, 1322, 1323, 89, 1325, 1326, 1327, 89, 1329, 1330, 1331, 89, 1334, 1336, 74, 89, 1338, 1340, 75, 89, 1342, 1343, 1344, 89, 1346, 1347, 1348, 89, 1351, 1352, 1353, 89, 1355, 1357, 76, 89, 1360, 1361, 1362, 89, 1366, 1367, 1368, 89, 1370, 1371, 1372, 89, 1374, 1375, 1376, 89, 1379, 1347, 1348, 89, 1380, 1381, 1382, 89, 1384, 1385, 1386, 89, 1388, 1389, 1390, 89, 1393, 1212, 1213, 89, 1394, 1395, 1396, 89, 1398, 1399, 89] (by decide +kernel) (by decide +kernel)
theorem zzMLw_2 : ∀ r ∈ zzML_2, ∀ w ∈ zzMLc r, w ∈ lw_tbl ∧ goodWord w = true := fun r hr w hw => zzMLv_2 w (List.mem_flatMap.mpr ⟨r, hr, hw⟩)
theorem zzMLw : ∀ r ∈ zzML, ∀ w ∈ zzMLc r, w ∈ lw_tbl ∧ goodWord w = true := by
  have e : zzML = zzML_0 ++ (zzML_1 ++ (zzML_2)) := rfl
  rw [e]
  exact List.forall_mem_append.mpr ⟨zzMLw_0, List.forall_mem_append.mpr ⟨zzMLw_1, zzMLw_2⟩⟩
