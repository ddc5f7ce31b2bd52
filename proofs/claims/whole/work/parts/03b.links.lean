/-! the links (written by wip/whole/gen1.py) -/
def zzDv (t : Nat) : Value := match t with | 3 => .null | 2 => .long 0 | _ => .int 0
set_option maxRecDepth 100000 in
theorem zzTy_a : ∀ c, c < 8 → ∀ k, k < zzN c → (parseFieldDescriptor (zzTf c k).2.2.1 = some (zzTy c k)) := by decide +kernel
set_option maxRecDepth 100000 in
theorem zzTy_b : ∀ c, c < 8 → ∀ k, k < zzN c → (zzT c k = 0 → zzTy c k = .int) := by decide +kernel
set_option maxRecDepth 100000 in
theorem zzTy_c : ∀ c, c < 8 → ∀ k, k < zzN c → (zzT c k = 1 → zzTy c k = .boolean) := by decide +kernel
set_option maxRecDepth 100000 in
theorem zzTy_d : ∀ c, c < 8 → ∀ k, k < zzN c → (zzT c k = 2 → zzTy c k = .long) := by decide +kernel
set_option maxRecDepth 100000 in
theorem zzTy_e : ∀ c, c < 8 → ∀ k, k < zzN c → (zzT c k = 3 → fits (zzTy c k) (.ref 0) = true) := by decide +kernel
set_option maxRecDepth 100000 in
theorem zzTy_f : ∀ c, c < 8 → ∀ k, k < zzN c → (zzT c k = 3 → fits (zzTy c k) .null = true) := by decide +kernel
set_option maxRecDepth 100000 in
theorem zzTy_g : ∀ c, c < 8 → ∀ k, k < zzN c → (zzT c k = 3 → narrow (zzTy c k) .null = .null) := by decide +kernel
set_option maxRecDepth 100000 in
theorem zzTy_h : ∀ c, c < 8 → ∀ k, k < zzN c → ((zzTf c k).2.2.2 = zzFin c k) := by decide +kernel
set_option maxRecDepth 100000 in
theorem zzTy_i : ∀ c, c < 8 → ∀ k, k < zzN c → ((zzTf c k).1 = zzR c) := by decide +kernel
set_option maxRecDepth 100000 in
theorem zzTy_j : ∀ c, c < 8 → ∀ k, k < zzN c → (defaultValue (zzTy c k) = zzDv (zzT c k)) := by decide +kernel
theorem zzTy_ok : ∀ c, c < 8 → ∀ k, k < zzN c → parseFieldDescriptor (zzTf c k).2.2.1 = some (zzTy c k) ∧ (zzT c k = 0 → zzTy c k = .int) ∧ (zzT c k = 1 → zzTy c k = .boolean) ∧ (zzT c k = 2 → zzTy c k = .long) ∧ (zzT c k = 3 → fits (zzTy c k) (.ref 0) = true ∧ fits (zzTy c k) .null = true ∧ narrow (zzTy c k) .null = .null) ∧ (zzTf c k).2.2.2 = zzFin c k ∧ (zzTf c k).1 = zzR c ∧ defaultValue (zzTy c k) = zzDv (zzT c k) := fun c hc k hk => ⟨zzTy_a c hc k hk, zzTy_b c hc k hk, zzTy_c c hc k hk, zzTy_d c hc k hk, fun h => ⟨zzTy_e c hc k hk h, zzTy_f c hc k hk h, zzTy_g c hc k hk h⟩, zzTy_h c hc k hk, zzTy_i c hc k hk, zzTy_j c hc k hk⟩
theorem zzNm_ok : ∀ c, c < 8 → ∀ a, a < zzN c → ∀ b, b < zzN c → a ≠ b → (zzTf c a).2.1 ≠ (zzTf c b).2.1 := by
  intro c hc
  match c, hc with
  | 0, _ => exact nmX0
  | 1, _ => exact nmX1
  | 2, _ => exact nmX2
  | 3, _ => exact nmX3
  | 4, _ => exact nmX4
  | 5, _ => exact nmX5
  | 6, _ => exact nmX6
  | 7, _ => exact nmX7
set_option maxRecDepth 100000 in
theorem zzUw_0 : ∀ w ∈ u_ws RX0 TX0 11, w ∈ lw_tbl ∧ goodWord w = true := zzPos [182, 184, 186, 188, 190, 192, 194, 196, 198, 200, 202] (by decide +kernel) (by decide +kernel)
set_option maxRecDepth 100000 in
theorem zzUw_1 : ∀ w ∈ u_ws RX1 TX1 6, w ∈ lw_tbl ∧ goodWord w = true := zzPos [249, 251, 253, 255, 257, 259] (by decide +kernel) (by decide +kernel)
set_option maxRecDepth 100000 in
theorem zzUw_2 : ∀ w ∈ u_ws RX2 TX2 7, w ∈ lw_tbl ∧ goodWord w = true := zzPos [137, 139, 141, 143, 145, 147, 149] (by decide +kernel) (by decide +kernel)
set_option maxRecDepth 100000 in
theorem zzUw_3 : ∀ w ∈ u_ws RX3 TX3 7, w ∈ lw_tbl ∧ goodWord w = true := zzPos [220, 222, 224, 226, 228, 230, 232] (by decide +kernel) (by decide +kernel)
set_option maxRecDepth 100000 in
theorem zzUw_4 : ∀ w ∈ u_ws RX4 TX4 3, w ∈ lw_tbl ∧ goodWord w = true := zzPos [276, 278, 280] (by decide +kernel) (by decide +kernel)
set_option maxRecDepth 100000 in
theorem zzUw_5 : ∀ w ∈ u_ws RX5 TX5 5, w ∈ lw_tbl ∧ goodWord w = true := zzPos [111, 113, 115, 117, 119] (by decide +kernel) (by decide +kernel)
set_option maxRecDepth 100000 in
theorem zzUw_6 : ∀ w ∈ u_ws RX6 TX6 9, w ∈ lw_tbl ∧ goodWord w = true := zzPos [455, 457, 459, 461, 463, 465, 467, 469, 471] (by decide +kernel) (by decide +kernel)
set_option maxRecDepth 100000 in
theorem zzUw_7 : ∀ w ∈ u_ws RX7 TX7 52, w ∈ lw_tbl ∧ goodWord w = true := zzPos [971, 973, 975, 977, 979, 981, 983, 985, 987, 989, 991, 993, 995, 997, 999, 1001, 1003, 1005, 1007, 1009, 1011, 1013, 1015, 1017, 1019, 1021, 1023, 1025, 1027, 1029, 1031, 1033, 1035, 1037, 1039, 1041, 1043, 1045, 1047, 1049, 1051, 1053, 1055, 1057, 1059, 1061, 1063, 1065, 1067, 1069, 1071, 1073] (by decide +kernel) (by decide +kernel)
theorem zzUw : ∀ c, c < 8 → ∀ w ∈ u_ws (zzR c) (zzTf c) (zzN c), w ∈ lw_tbl ∧ goodWord w = true := by
  intro c hc
  match c, hc with
  | 0, _ => exact zzUw_0
  | 1, _ => exact zzUw_1
  | 2, _ => exact zzUw_2
  | 3, _ => exact zzUw_3
  | 4, _ => exact zzUw_4
  | 5, _ => exact zzUw_5
  | 6, _ => exact zzUw_6
  | 7, _ => exact zzUw_7
theorem zzUW {c : Nat} (h : c < 8) : ∀ w ∈ u_ws (zzR c) (zzTf c) (zzN c), w ∈ ZW := fun w hw => ZW_of (zzUw c h w hw).1 (zzUw c h w hw).2
theorem zzFLr : ∀ r ∈ zzFL, r.2.1 < 8 ∧ r.2.2 < zzN r.2.1 := by decide +kernel
theorem zzNC : ∀ c, c < 8 → zzN c ≤ 60 := by decide +kernel
set_option maxRecDepth 100000 in
theorem zzKIwL : ∀ w ∈ zzKI.map (fun r => Jvm.Cond.constant (zzR r.1.1) r.1.2 r.2), w ∈ lw_tbl ∧ goodWord w = true := zzPos [639, 847, 1250, 1358] (by decide +kernel) (by decide +kernel)
theorem zzKIw : ∀ r ∈ zzKI, Jvm.Cond.constant (zzR r.1.1) r.1.2 r.2 ∈ lw_tbl ∧ goodWord (Jvm.Cond.constant (zzR r.1.1) r.1.2 r.2) = true := fun r hr => zzKIwL _ (List.mem_map.mpr ⟨r, hr, rfl⟩)
set_option maxRecDepth 100000 in
theorem zzKLwL : ∀ w ∈ zzKL.map (fun r => Jvm.Cond.constantLong (zzR r.1.1) r.1.2 r.2), w ∈ lw_tbl ∧ goodWord w = true := zzPos [853, 1081, 1093, 1094, 1095, 1140, 1141, 1142, 1143, 1144, 1197, 1198, 1214, 1222, 1236, 1249, 1267, 1307, 1332, 1349, 1363, 1364, 1377, 1391] (by decide +kernel) (by decide +kernel)
theorem zzKLw : ∀ r ∈ zzKL, Jvm.Cond.constantLong (zzR r.1.1) r.1.2 r.2 ∈ lw_tbl ∧ goodWord (Jvm.Cond.constantLong (zzR r.1.1) r.1.2 r.2) = true := fun r hr => zzKLwL _ (List.mem_map.mpr ⟨r, hr, rfl⟩)
set_option maxRecDepth 100000 in
theorem zzCLwL : ∀ w ∈ zzCL.map (fun r => Jvm.Cond.classLink (zzR r.1.1) r.1.2 (zzR r.2)), w ∈ lw_tbl ∧ goodWord w = true := zzPos [91, 99, 123, 152, 205, 235, 262, 910] (by decide +kernel) (by decide +kernel)
theorem zzCLw : ∀ r ∈ zzCL, Jvm.Cond.classLink (zzR r.1.1) r.1.2 (zzR r.2) ∈ lw_tbl ∧ goodWord (Jvm.Cond.classLink (zzR r.1.1) r.1.2 (zzR r.2)) = true := fun r hr => zzCLwL _ (List.mem_map.mpr ⟨r, hr, rfl⟩)
set_option maxRecDepth 100000 in
theorem zzCLn : ∀ r ∈ zzCL, r.2 < 8 := by decide +kernel
set_option maxRecDepth 100000 in
theorem zzCLjL : ∀ w ∈ zzCL.map (fun r => Jvm.Cond.instantiable (zzR r.2) (zzN r.2)), w ∈ lw_tbl ∧ goodWord w = true := zzPos [92, 100, 124, 153, 206, 236, 264, 911] (by decide +kernel) (by decide +kernel)
theorem zzCLj : ∀ r ∈ zzCL, Jvm.Cond.instantiable (zzR r.2) (zzN r.2) ∈ lw_tbl ∧ goodWord (Jvm.Cond.instantiable (zzR r.2) (zzN r.2)) = true := fun r hr => zzCLjL _ (List.mem_map.mpr ⟨r, hr, rfl⟩)
set_option maxRecDepth 100000 in
theorem zzCLkL : ∀ w ∈ zzCL.map (fun r => Jvm.Cond.initialized (zzR r.2)), w ∈ lw_tbl ∧ goodWord w = true := zzPos [78, 79, 80, 81, 82, 83, 84, 89] (by decide +kernel) (by decide +kernel)
theorem zzCLk : ∀ r ∈ zzCL, Jvm.Cond.initialized (zzR r.2) ∈ lw_tbl ∧ goodWord (Jvm.Cond.initialized (zzR r.2)) = true := fun r hr => zzCLkL _ (List.mem_map.mpr ⟨r, hr, rfl⟩)
theorem zzCLi : ∀ r ∈ zzCL, r.2 < 8 ∧ (Jvm.Cond.instantiable (zzR r.2) (zzN r.2) ∈ lw_tbl ∧ goodWord (Jvm.Cond.instantiable (zzR r.2) (zzN r.2)) = true) ∧ (Jvm.Cond.initialized (zzR r.2) ∈ lw_tbl ∧ goodWord (Jvm.Cond.initialized (zzR r.2)) = true) := fun r hr => ⟨zzCLn r hr, zzCLj r hr, zzCLk r hr⟩
/-- what a call wants of the words, by its kind -/
def zzMLc (r : (Nat × Nat) × Nat × Nat) : List Cond := match r.2.1 with
  | 0 => [.methodLink (zzR r.1.1) r.1.2 (zzM r.2.2).1, .static (zzM r.2.2).1, .initialized (zzM r.2.2).1.cls]
  | 1 => [.static (zzM r.2.2).1, .initialized (zzM r.2.2).1.cls]
  | 2 => [.methodLink (zzR r.1.1) r.1.2 (zzM r.2.2).1, .instanceMethod (zzM r.2.2).1, .selects (zzR (zzM r.2.2).2.2.2.2.1) (zzM r.2.2).1 (zzM r.2.2).1, .initialized (zzM r.2.2).1.cls]
  | 3 => [.methodLink (zzR r.1.1) r.1.2 (zzM r.2.2).1, .instanceMethod (zzM r.2.2).1, .initialized (zzM r.2.2).1.cls]
  | 4 => [.methodLink (zzR r.1.1) r.1.2 objectInit, .instanceMethod objectInit, .code objectInit ⟨#[0xb1]⟩ 1 none]
  | 5 => [.methodLink (zzR r.1.1) r.1.2 arraycopyName, .native arraycopyName, .static arraycopyName, .initialized "java/lang/System"]
  | 6 => [.methodLink (zzR r.1.1) r.1.2 yJ0_length_8abf5, .instanceMethod yJ0_length_8abf5, .selects RJ0 yJ0_length_8abf5 yJ0_length_8abf5, .initialized RJ0]
  | _ => [.methodLink (zzR r.1.1) r.1.2 yJ0_charAt_5068e, .instanceMethod yJ0_charAt_5068e, .selects RJ0 yJ0_charAt_5068e yJ0_charAt_5068e, .initialized RJ0]
def zzML_0 : List ((Nat × Nat) × Nat × Nat) := [((8, 9), 3, 81), ((6, 3), 4, 0), ((6, 11), 3, 74), ((5, 3), 4, 0), ((6, 18), 3, 39), ((2, 3), 4, 0), ((6, 27), 3, 0), ((0, 3), 4, 0), ((0, 44), 1, 128), ((6, 44), 3, 61), ((3, 3), 4, 0), ((6, 51), 3, 29), ((1, 3), 4, 0), ((6, 62), 3, 67), ((4, 3), 4, 0), ((6, 65), 6, 0), ((6, 71), 7, 0), ((6, 75), 2, 40), ((2, 26), 1, 126), ((6, 79), 2, 41), ((2, 33), 2, 75), ((2, 38), 2, 51), ((2, 85), 2, 57), ((2, 89), 0, 58), ((2, 92), 0, 59), ((2, 95), 2, 52), ((2, 107), 0, 54), ((2, 111), 2, 53), ((2, 115), 6, 0), ((2, 121), 7, 0), ((2, 54), 2, 50), ((2, 98), 0, 60), ((2, 101), 2, 55), ((2, 104), 2, 56), ((2, 41), 2, 49), ((2, 45), 2, 42), ((2, 60), 2, 43), ((2, 66), 2, 44), ((2, 69), 2, 48), ((2, 63), 2, 76), ((5, 28), 1, 126), ((2, 73), 2, 45), ((2, 76), 2, 46), ((2, 79), 2, 47), ((2, 48), 2, 77), ((2, 57), 2, 78), ((8, 13), 2, 82), ((6, 82), 2, 83), ((6, 86), 2, 2), ((6, 94), 0, 127), ((6, 179), 0, 125), ((6, 268), 0, 126), ((8, 18), 2, 84), ((6, 111), 2, 3), ((0, 55), 1, 126), ((8, 23), 2, 85), ((6, 114), 2, 9), ((6, 117), 2, 7), ((6, 120), 2, 11), ((0, 63), 2, 7), ((8, 27), 2, 86), ((6, 124), 2, 5), ((0, 59), 1, 125), ((6, 127), 2, 6), ((6, 130), 2, 4), ((6, 133), 2, 21), ((0, 77), 2, 8), ((0, 116), 2, 20), ((0, 93), 2, 5), ((0, 96), 2, 17), ((0, 84), 1, 130), ((0, 67), 2, 9), ((0, 87), 1, 131), ((0, 99), 2, 6), ((0, 102), 2, 16), ((0, 106), 2, 79), ((5, 32), 1, 125), ((5, 36), 0, 80), ((0, 112), 1, 135), ((0, 119), 2, 4), ((0, 122), 2, 18), ((0, 81), 2, 19), ((0, 90), 2, 2), ((0, 125), 1, 132), ((6, 136), 2, 22), ((0, 129), 1, 133), ((6, 139), 2, 17), ((6, 142), 2, 18), ((8, 31), 2, 87), ((8, 36), 2, 88)]
set_option maxRecDepth 100000 in
theorem zzMLv_0 : ∀ w ∈ zzML_0.flatMap zzMLc, w ∈ lw_tbl ∧ goodWord w = true := zzPos [93, 94, 78, 96, 97, 98, 101, 102, 79, 104, 97, 98, 125, 126, 80, 128, 97, 98, 154, 155, 81, 157, 97, 98, 159, 78, 207, 208, 82, 210, 97, 98, 237, 238, 83, 240, 97, 98, 265, 266, 84, 268, 97, 98, 284, 285, 286, 85, 294, 295, 296, 85, 332, 333, 334, 80, 337, 78, 339, 340, 341, 80, 343, 344, 345, 79, 347, 349, 0, 80, 351, 353, 1, 80, 355, 356, 80, 358, 359, 80, 361, 363, 2, 80, 365, 366, 80, 380, 382, 3, 80, 384, 285, 286, 85, 385, 295, 296, 85, 386, 388, 4, 80, 390, 391, 80, 393, 395, 5, 80, 397, 399, 6, 80, 401, 403, 7, 80, 405, 407, 8, 80, 409, 411, 9, 80, 413, 415, 10, 80, 417, 419, 11, 80, 421, 422, 423, 79, 337, 78, 426, 428, 12, 80, 430, 432, 13, 80, 434, 436, 14, 80, 438, 439, 440, 79, 442, 443, 444, 79, 475, 476, 477, 78, 479, 481, 15, 78, 483, 484, 485, 81, 487, 488, 78, 490, 491, 78, 493, 337, 78, 494, 495, 496, 78, 498, 499, 500, 81, 337, 78, 503, 504, 505, 78, 507, 508, 509, 81, 511, 512, 513, 81, 515, 516, 517, 81, 519, 512, 513, 81, 520, 521, 522, 78, 524, 525, 526, 81, 491, 78, 529, 530, 531, 81, 533, 534, 535, 81, 537, 538, 539, 81, 541, 542, 543, 81, 545, 546, 547, 81, 549, 525, 526, 81, 550, 551, 552, 81, 555, 78, 557, 508, 509, 81, 559, 78, 561, 530, 531, 81, 562, 563, 564, 81, 566, 567, 568, 79, 491, 78, 571, 572, 79, 575, 78, 577, 534, 535, 81, 578, 579, 580, 81, 582, 583, 584, 81, 586, 484, 485, 81, 588, 78, 590, 591, 592, 81, 595, 78, 597, 551, 552, 81, 598, 579, 580, 81, 599, 600, 601, 78, 603, 604, 605, 78] (by decide +kernel) (by decide +kernel)
theorem zzMLw_0 : ∀ r ∈ zzML_0, ∀ w ∈ zzMLc r, w ∈ lw_tbl ∧ goodWord w = true := fun r hr w hw => zzMLv_0 w (List.mem_flatMap.mpr ⟨r, hr, hw⟩)
def zzML_1 : List ((Nat × Nat) × Nat × Nat) := [((8, 40), 2, 89), ((8, 45), 2, 90), ((8, 49), 2, 91), ((6, 150), 2, 24), ((0, 136), 2, 21), ((6, 153), 2, 25), ((0, 139), 2, 23), ((0, 132), 1, 134), ((6, 156), 2, 27), ((8, 53), 2, 92), ((6, 160), 0, 93), ((6, 163), 2, 62), ((3, 41), 2, 22), ((3, 44), 1, 126), ((6, 167), 2, 63), ((3, 48), 1, 128), ((3, 52), 2, 64), ((3, 56), 1, 125), ((3, 60), 2, 65), ((6, 170), 2, 66), ((8, 57), 2, 94), ((6, 183), 0, 100), ((6, 186), 2, 10), ((6, 190), 2, 101), ((6, 216), 2, 1), ((0, 51), 1, 129), ((6, 303), 5, 0), ((8, 61), 2, 95), ((6, 193), 2, 8), ((6, 196), 2, 102), ((6, 236), 2, 12), ((0, 70), 2, 11), ((8, 65), 2, 96), ((6, 199), 2, 15), ((6, 202), 2, 19), ((6, 205), 2, 16), ((8, 69), 2, 97), ((6, 208), 2, 124), ((6, 212), 2, 30), ((1, 21), 2, 69), ((1, 32), 2, 72), ((4, 26), 1, 125), ((1, 36), 1, 126), ((1, 40), 2, 31), ((1, 48), 1, 125), ((1, 44), 2, 32), ((1, 52), 2, 2), ((1, 58), 2, 9), ((1, 61), 2, 33), ((6, 220), 2, 34), ((1, 64), 2, 35), ((1, 84), 2, 11), ((1, 68), 2, 25), ((1, 75), 2, 36), ((1, 81), 2, 37), ((1, 88), 2, 38), ((8, 73), 2, 98), ((6, 229), 2, 14), ((0, 74), 2, 13), ((6, 232), 2, 103), ((8, 77), 2, 99), ((8, 81), 2, 104), ((6, 239), 2, 69), ((6, 247), 2, 108), ((6, 255), 2, 28), ((0, 142), 2, 72), ((6, 251), 2, 109), ((6, 259), 2, 105), ((6, 262), 2, 106), ((6, 265), 2, 107), ((8, 85), 2, 110), ((6, 272), 2, 68), ((4, 22), 1, 128), ((6, 275), 2, 73), ((4, 30), 1, 126), ((8, 89), 2, 111), ((6, 279), 2, 13), ((8, 93), 2, 112), ((6, 284), 2, 111), ((6, 287), 0, 113), ((8, 98), 2, 114), ((8, 102), 2, 115), ((8, 106), 2, 116), ((6, 290), 2, 26), ((8, 110), 2, 117), ((8, 114), 2, 118), ((6, 293), 2, 70), ((8, 118), 2, 119), ((6, 297), 2, 71), ((8, 123), 2, 120)]
set_option maxRecDepth 100000 in
theorem zzMLv_1 : ∀ w ∈ zzML_1.flatMap zzMLc, w ∈ lw_tbl ∧ goodWord w = true := zzPos [607, 608, 609, 78, 611, 612, 613, 78, 615, 616, 617, 78, 619, 620, 621, 81, 623, 538, 539, 81, 624, 625, 626, 81, 628, 629, 630, 81, 633, 78, 635, 636, 637, 81, 640, 641, 642, 78, 644, 645, 78, 647, 648, 649, 82, 651, 591, 592, 81, 337, 78, 653, 654, 655, 82, 159, 78, 658, 660, 16, 82, 491, 78, 663, 665, 17, 82, 667, 668, 669, 82, 671, 672, 673, 78, 675, 676, 78, 678, 679, 680, 81, 682, 684, 18, 78, 686, 687, 688, 81, 691, 78, 693, 695, 694, 90, 696, 697, 698, 78, 700, 542, 543, 81, 701, 703, 19, 78, 705, 706, 707, 81, 709, 516, 517, 81, 710, 711, 712, 78, 714, 715, 716, 81, 718, 583, 584, 81, 719, 563, 564, 81, 720, 721, 722, 78, 724, 726, 20, 78, 728, 729, 730, 83, 732, 733, 734, 84, 736, 737, 738, 84, 491, 78, 337, 78, 742, 744, 21, 83, 491, 78, 747, 749, 22, 83, 751, 484, 485, 81, 752, 508, 509, 81, 753, 755, 23, 83, 757, 758, 759, 83, 761, 763, 24, 83, 765, 516, 517, 81, 766, 625, 626, 81, 767, 769, 25, 83, 771, 773, 26, 83, 775, 777, 27, 83, 779, 780, 781, 78, 783, 784, 785, 81, 787, 788, 789, 81, 791, 793, 28, 78, 795, 796, 797, 78, 799, 800, 801, 78, 803, 733, 734, 84, 804, 806, 29, 78, 808, 809, 810, 81, 812, 737, 738, 84, 813, 815, 30, 78, 817, 819, 31, 78, 821, 823, 32, 78, 825, 827, 33, 78, 829, 830, 831, 78, 833, 834, 835, 84, 159, 78, 838, 839, 840, 84, 337, 78, 843, 844, 845, 78, 848, 788, 789, 81, 849, 850, 851, 78, 854, 844, 845, 78, 855, 856, 78, 858, 859, 860, 78, 862, 863, 864, 78, 866, 867, 868, 78, 870, 871, 872, 81, 874, 875, 876, 78, 878, 879, 880, 78, 882, 883, 884, 84, 886, 887, 888, 78, 890, 891, 892, 84, 894, 895, 896, 78] (by decide +kernel) (by decide +kernel)
theorem zzMLw_1 : ∀ r ∈ zzML_1, ∀ w ∈ zzMLc r, w ∈ lw_tbl ∧ goodWord w = true := fun r hr w hw => zzMLv_1 w (List.mem_flatMap.mpr ⟨r, hr, hw⟩)
def zzML_2 : List ((Nat × Nat) × Nat × Nat) := [((6, 309), 2, 72), ((6, 312), 2, 84), ((8, 128), 2, 121), ((6, 315), 0, 122), ((6, 318), 0, 123), ((8, 12), 3, 138), ((7, 7), 4, 0), ((7, 78), 2, 139), ((8, 17), 2, 143), ((7, 88), 0, 136), ((7, 94), 2, 140), ((7, 106), 2, 142), ((7, 110), 2, 148), ((7, 133), 2, 175), ((7, 143), 2, 172), ((7, 265), 2, 169), ((7, 268), 2, 171), ((7, 278), 2, 174), ((7, 140), 2, 170), ((7, 271), 2, 173), ((7, 262), 2, 166), ((7, 200), 2, 152), ((7, 160), 2, 151), ((7, 203), 2, 155), ((7, 190), 2, 154), ((7, 258), 2, 165), ((7, 197), 2, 153), ((7, 236), 2, 164), ((7, 255), 2, 163), ((7, 247), 2, 162), ((7, 228), 2, 157), ((7, 250), 2, 161), ((7, 242), 2, 160), ((7, 232), 2, 159), ((7, 225), 2, 156), ((7, 239), 2, 158), ((7, 274), 0, 137), ((7, 137), 2, 176), ((7, 114), 2, 144), ((8, 22), 2, 145), ((8, 26), 2, 147), ((7, 126), 0, 141), ((7, 129), 2, 146), ((8, 30), 2, 148), ((8, 35), 2, 149), ((8, 39), 2, 150), ((8, 44), 2, 167), ((8, 48), 2, 168), ((8, 52), 2, 180), ((7, 287), 2, 178), ((7, 290), 2, 179), ((7, 281), 2, 177), ((8, 56), 2, 182), ((7, 301), 2, 181), ((8, 60), 2, 183), ((8, 64), 2, 186), ((7, 313), 2, 185), ((7, 310), 2, 184), ((8, 68), 2, 188), ((7, 316), 2, 187), ((8, 72), 2, 193), ((7, 334), 0, 206), ((7, 337), 2, 189), ((7, 340), 2, 191), ((7, 330), 2, 190), ((7, 343), 2, 192), ((8, 76), 2, 194), ((8, 80), 2, 195), ((8, 84), 2, 198), ((7, 346), 2, 196), ((7, 351), 2, 197), ((8, 88), 2, 199), ((7, 354), 2, 207), ((8, 92), 2, 201), ((7, 358), 2, 200), ((8, 97), 2, 202), ((8, 101), 2, 203), ((8, 105), 2, 204), ((8, 109), 2, 205), ((8, 113), 2, 207), ((8, 117), 2, 208), ((8, 122), 2, 209), ((8, 127), 2, 210), ((7, 380), 2, 145), ((8, 131), 2, 212), ((7, 383), 0, 211)]
set_option maxRecDepth 100000 in
theorem zzMLv_2 : ∀ w ∈ zzML_2.flatMap zzMLc, w ∈ lw_tbl ∧ goodWord w = true := zzPos [898, 737, 738, 84, 899, 495, 496, 78, 900, 901, 902, 78, 904, 905, 78, 907, 908, 78, 912, 913, 89, 915, 97, 98, 916, 918, 34, 89, 1077, 1078, 1079, 89, 1082, 1083, 89, 1085, 1087, 35, 89, 1089, 1091, 36, 89, 1096, 1097, 1098, 89, 1100, 1102, 37, 89, 1104, 1106, 38, 89, 1108, 1110, 39, 89, 1112, 1114, 40, 89, 1116, 1118, 41, 89, 1120, 1122, 42, 89, 1124, 1126, 43, 89, 1128, 1130, 44, 89, 1132, 1134, 45, 89, 1136, 1138, 46, 89, 1145, 1147, 47, 89, 1149, 1151, 48, 89, 1153, 1155, 49, 89, 1157, 1159, 50, 89, 1161, 1163, 51, 89, 1165, 1167, 52, 89, 1169, 1171, 53, 89, 1173, 1175, 54, 89, 1177, 1179, 55, 89, 1181, 1183, 56, 89, 1185, 1187, 57, 89, 1189, 1191, 58, 89, 1193, 1195, 59, 89, 1199, 1200, 89, 1202, 1204, 60, 89, 1206, 1208, 61, 89, 1210, 1211, 1212, 89, 1215, 1216, 1217, 89, 1219, 1220, 89, 1223, 1225, 62, 89, 1227, 1097, 1098, 89, 1228, 1229, 1230, 89, 1232, 1233, 1234, 89, 1237, 1238, 1239, 89, 1241, 1242, 1243, 89, 1245, 1246, 1247, 89, 1251, 1253, 63, 89, 1255, 1257, 64, 89, 1259, 1261, 65, 89, 1263, 1264, 1265, 89, 1268, 1270, 66, 89, 1272, 1273, 1274, 89, 1276, 1277, 1278, 89, 1280, 1282, 67, 89, 1284, 1286, 68, 89, 1288, 1289, 1290, 89, 1292, 1294, 69, 89, 1296, 1297, 1298, 89, 1300, 1301, 89, 1303, 1305, 70, 89, 1308, 1310, 71, 89, 1312, 1314, 72, 89, 1316, 1318, 73, 89, 1320, 1321, 1322, 89, 1324, 1325, 1326, 89, 1328, 1329, 1330, 89, 1333, 1335, 74, 89, 1337, 1339, 75, 89, 1341, 1342, 1343, 89, 1345, 1346, 1347, 89, 1350, 1351, 1352, 89, 1354, 1356, 76, 89, 1359, 1360, 1361, 89, 1365, 1366, 1367, 89, 1369, 1370, 1371, 89, 1373, 1374, 1375, 89, 1378, 1346, 1347, 89, 1379, 1380, 1381, 89, 1383, 1384, 1385, 89, 1387, 1388, 1389, 89, 1392, 1211, 1212, 89, 1393, 1394, 1395, 89, 1397, 1398, 89] (by decide +kernel) (by decide +kernel)
theorem zzMLw_2 : ∀ r ∈ zzML_2, ∀ w ∈ zzMLc r, w ∈ lw_tbl ∧ goodWord w = true := fun r hr w hw => zzMLv_2 w (List.mem_flatMap.mpr ⟨r, hr, hw⟩)
theorem zzMLw : ∀ r ∈ zzML, ∀ w ∈ zzMLc r, w ∈ lw_tbl ∧ goodWord w = true := by
  have e : zzML = zzML_0 ++ (zzML_1 ++ (zzML_2)) := rfl
  rw [e]
  exact List.forall_mem_append.mpr ⟨zzMLw_0, List.forall_mem_append.mpr ⟨zzMLw_1, zzMLw_2⟩⟩
