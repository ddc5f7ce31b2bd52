/-! what stands at each place (written by wip/whole/gen2.py) -/
theorem zm_1 : zzM 1 = (yX0_take, cX0_take, 2, none, 0, 2, 1, zzc_1) := rfl
theorem zr_1 : (zzM 1).2.2.2.1 = none := by rw [zm_1]
theorem zo_1_0 : zzOp 1 0 = some (.aload_n 0, 1) := by unfold zzOp; rw [zm_1]; decide +kernel
theorem zo_1_1 : zzOp 1 1 = some (.aload_n 1, 1) := by unfold zzOp; rw [zm_1]; decide +kernel
theorem zo_1_2 : zzOp 1 2 = some (.getfield 15, 3) := by unfold zzOp; rw [zm_1]; decide +kernel
theorem zo_1_5 : zzOp 1 5 = some (.putfield 15, 3) := by unfold zzOp; rw [zm_1]; decide +kernel
theorem zo_1_8 : zzOp 1 8 = some (.aload_n 0, 1) := by unfold zzOp; rw [zm_1]; decide +kernel
theorem zo_1_9 : zzOp 1 9 = some (.aload_n 1, 1) := by unfold zzOp; rw [zm_1]; decide +kernel
theorem zo_1_10 : zzOp 1 10 = some (.getfield 19, 3) := by unfold zzOp; rw [zm_1]; decide +kernel
theorem zo_1_13 : zzOp 1 13 = some (.putfield 19, 3) := by unfold zzOp; rw [zm_1]; decide +kernel
theorem zo_1_16 : zzOp 1 16 = some (.aload_n 0, 1) := by unfold zzOp; rw [zm_1]; decide +kernel
theorem zo_1_17 : zzOp 1 17 = some (.aload_n 1, 1) := by unfold zzOp; rw [zm_1]; decide +kernel
theorem zo_1_18 : zzOp 1 18 = some (.getfield 22, 3) := by unfold zzOp; rw [zm_1]; decide +kernel
theorem zo_1_21 : zzOp 1 21 = some (.putfield 22, 3) := by unfold zzOp; rw [zm_1]; decide +kernel
theorem zo_1_24 : zzOp 1 24 = some (.aload_n 0, 1) := by unfold zzOp; rw [zm_1]; decide +kernel
theorem zo_1_25 : zzOp 1 25 = some (.aload_n 1, 1) := by unfold zzOp; rw [zm_1]; decide +kernel
theorem zo_1_26 : zzOp 1 26 = some (.getfield 25, 3) := by unfold zzOp; rw [zm_1]; decide +kernel
theorem zo_1_29 : zzOp 1 29 = some (.putfield 25, 3) := by unfold zzOp; rw [zm_1]; decide +kernel
theorem zo_1_32 : zzOp 1 32 = some (.aload_n 0, 1) := by unfold zzOp; rw [zm_1]; decide +kernel
theorem zo_1_33 : zzOp 1 33 = some (.getfield 28, 3) := by unfold zzOp; rw [zm_1]; decide +kernel
theorem zo_1_36 : zzOp 1 36 = some (.aload_n 1, 1) := by unfold zzOp; rw [zm_1]; decide +kernel
theorem zo_1_37 : zzOp 1 37 = some (.getfield 28, 3) := by unfold zzOp; rw [zm_1]; decide +kernel
theorem zo_1_40 : zzOp 1 40 = some (.invokestatic 51, 3) := by unfold zzOp; rw [zm_1]; decide +kernel
theorem zo_1_43 : zzOp 1 43 = some (.aload_n 0, 1) := by unfold zzOp; rw [zm_1]; decide +kernel
theorem zo_1_44 : zzOp 1 44 = some (.getfield 32, 3) := by unfold zzOp; rw [zm_1]; decide +kernel
theorem zo_1_47 : zzOp 1 47 = some (.aload_n 1, 1) := by unfold zzOp; rw [zm_1]; decide +kernel
theorem zo_1_48 : zzOp 1 48 = some (.getfield 32, 3) := by unfold zzOp; rw [zm_1]; decide +kernel
theorem zo_1_51 : zzOp 1 51 = some (.invokestatic 51, 3) := by unfold zzOp; rw [zm_1]; decide +kernel
theorem zo_1_54 : zzOp 1 54 = some (.aload_n 0, 1) := by unfold zzOp; rw [zm_1]; decide +kernel
theorem zo_1_55 : zzOp 1 55 = some (.getfield 35, 3) := by unfold zzOp; rw [zm_1]; decide +kernel
theorem zo_1_58 : zzOp 1 58 = some (.aload_n 1, 1) := by unfold zzOp; rw [zm_1]; decide +kernel
theorem zo_1_59 : zzOp 1 59 = some (.getfield 35, 3) := by unfold zzOp; rw [zm_1]; decide +kernel
theorem zo_1_62 : zzOp 1 62 = some (.invokestatic 51, 3) := by unfold zzOp; rw [zm_1]; decide +kernel
theorem zo_1_65 : zzOp 1 65 = some (.aload_n 0, 1) := by unfold zzOp; rw [zm_1]; decide +kernel
theorem zo_1_66 : zzOp 1 66 = some (.getfield 38, 3) := by unfold zzOp; rw [zm_1]; decide +kernel
theorem zo_1_69 : zzOp 1 69 = some (.aload_n 1, 1) := by unfold zzOp; rw [zm_1]; decide +kernel
theorem zo_1_70 : zzOp 1 70 = some (.getfield 38, 3) := by unfold zzOp; rw [zm_1]; decide +kernel
theorem zo_1_73 : zzOp 1 73 = some (.invokestatic 51, 3) := by unfold zzOp; rw [zm_1]; decide +kernel
theorem zo_1_76 : zzOp 1 76 = some (.aload_n 0, 1) := by unfold zzOp; rw [zm_1]; decide +kernel
theorem zo_1_77 : zzOp 1 77 = some (.getfield 41, 3) := by unfold zzOp; rw [zm_1]; decide +kernel
theorem zo_1_80 : zzOp 1 80 = some (.aload_n 1, 1) := by unfold zzOp; rw [zm_1]; decide +kernel
theorem zo_1_81 : zzOp 1 81 = some (.getfield 41, 3) := by unfold zzOp; rw [zm_1]; decide +kernel
theorem zo_1_84 : zzOp 1 84 = some (.invokestatic 51, 3) := by unfold zzOp; rw [zm_1]; decide +kernel
theorem zo_1_87 : zzOp 1 87 = some (.return_, 1) := by unfold zzOp; rw [zm_1]; decide +kernel
theorem zf_1_15 : zzGet zzFL (zzM 1).2.2.2.2.1 15 = some (0, 1) := by rw [zm_1]; decide +kernel
theorem zf_1_19 : zzGet zzFL (zzM 1).2.2.2.2.1 19 = some (0, 2) := by rw [zm_1]; decide +kernel
theorem zf_1_22 : zzGet zzFL (zzM 1).2.2.2.2.1 22 = some (0, 3) := by rw [zm_1]; decide +kernel
theorem zf_1_25 : zzGet zzFL (zzM 1).2.2.2.2.1 25 = some (0, 4) := by rw [zm_1]; decide +kernel
theorem zf_1_28 : zzGet zzFL (zzM 1).2.2.2.2.1 28 = some (0, 5) := by rw [zm_1]; decide +kernel
theorem zf_1_32 : zzGet zzFL (zzM 1).2.2.2.2.1 32 = some (0, 6) := by rw [zm_1]; decide +kernel
theorem zf_1_35 : zzGet zzFL (zzM 1).2.2.2.2.1 35 = some (0, 7) := by rw [zm_1]; decide +kernel
theorem zf_1_38 : zzGet zzFL (zzM 1).2.2.2.2.1 38 = some (0, 8) := by rw [zm_1]; decide +kernel
theorem zf_1_41 : zzGet zzFL (zzM 1).2.2.2.2.1 41 = some (0, 9) := by rw [zm_1]; decide +kernel
theorem zl_1_51 : zzGet zzML (zzM 1).2.2.2.2.1 51 = some (1, 129) := by rw [zm_1]; decide +kernel
theorem zm_2 : zzM 2 = (yX0_has, cX0_has, 2, (some .boolean), 0, 2, 1, zzc_2) := rfl
theorem zr_2 : (zzM 2).2.2.2.1 = (some .boolean) := by rw [zm_2]
theorem zo_2_0 : zzOp 2 0 = some (.iload_n 1, 1) := by unfold zzOp; rw [zm_2]; decide +kernel
theorem zo_2_1 : zzOp 2 1 = some (.ifCond .lt 15, 3) := by unfold zzOp; rw [zm_2]; decide +kernel
theorem zo_2_4 : zzOp 2 4 = some (.iload_n 1, 1) := by unfold zzOp; rw [zm_2]; decide +kernel
theorem zo_2_5 : zzOp 2 5 = some (.aload_n 0, 1) := by unfold zzOp; rw [zm_2]; decide +kernel
theorem zo_2_6 : zzOp 2 6 = some (.getfield 25, 3) := by unfold zzOp; rw [zm_2]; decide +kernel
theorem zo_2_9 : zzOp 2 9 = some (.if_icmp .ge 7, 3) := by unfold zzOp; rw [zm_2]; decide +kernel
theorem zo_2_12 : zzOp 2 12 = some (.iconst 1, 1) := by unfold zzOp; rw [zm_2]; decide +kernel
theorem zo_2_13 : zzOp 2 13 = some (.goto 4, 3) := by unfold zzOp; rw [zm_2]; decide +kernel
theorem zo_2_16 : zzOp 2 16 = some (.iconst 0, 1) := by unfold zzOp; rw [zm_2]; decide +kernel
theorem zo_2_17 : zzOp 2 17 = some (.ireturn, 1) := by unfold zzOp; rw [zm_2]; decide +kernel
theorem zf_2_25 : zzGet zzFL (zzM 2).2.2.2.2.1 25 = some (0, 4) := by rw [zm_2]; decide +kernel
theorem zm_3 : zzM 3 = (yX0_join, cX0_join, 3, (some .int), 0, 3, 1, zzc_3) := rfl
theorem zr_3 : (zzM 3).2.2.2.1 = (some .int) := by rw [zm_3]
theorem zo_3_0 : zzOp 3 0 = some (.aload_n 0, 1) := by unfold zzOp; rw [zm_3]; decide +kernel
theorem zo_3_1 : zzOp 3 1 = some (.getfield 28, 3) := by unfold zzOp; rw [zm_3]; decide +kernel
theorem zo_3_4 : zzOp 3 4 = some (.aload_n 0, 1) := by unfold zzOp; rw [zm_3]; decide +kernel
theorem zo_3_5 : zzOp 3 5 = some (.getfield 25, 3) := by unfold zzOp; rw [zm_3]; decide +kernel
theorem zo_3_8 : zzOp 3 8 = some (.iload_n 1, 1) := by unfold zzOp; rw [zm_3]; decide +kernel
theorem zo_3_9 : zzOp 3 9 = some (.invokestatic 55, 3) := by unfold zzOp; rw [zm_3]; decide +kernel
theorem zo_3_12 : zzOp 3 12 = some (.aload_n 0, 1) := by unfold zzOp; rw [zm_3]; decide +kernel
theorem zo_3_13 : zzOp 3 13 = some (.getfield 32, 3) := by unfold zzOp; rw [zm_3]; decide +kernel
theorem zo_3_16 : zzOp 3 16 = some (.aload_n 0, 1) := by unfold zzOp; rw [zm_3]; decide +kernel
theorem zo_3_17 : zzOp 3 17 = some (.getfield 25, 3) := by unfold zzOp; rw [zm_3]; decide +kernel
theorem zo_3_20 : zzOp 3 20 = some (.iload_n 2, 1) := by unfold zzOp; rw [zm_3]; decide +kernel
theorem zo_3_21 : zzOp 3 21 = some (.invokestatic 55, 3) := by unfold zzOp; rw [zm_3]; decide +kernel
theorem zo_3_24 : zzOp 3 24 = some (.aload_n 0, 1) := by unfold zzOp; rw [zm_3]; decide +kernel
theorem zo_3_25 : zzOp 3 25 = some (.getfield 35, 3) := by unfold zzOp; rw [zm_3]; decide +kernel
theorem zo_3_28 : zzOp 3 28 = some (.aload_n 0, 1) := by unfold zzOp; rw [zm_3]; decide +kernel
theorem zo_3_29 : zzOp 3 29 = some (.getfield 25, 3) := by unfold zzOp; rw [zm_3]; decide +kernel
theorem zo_3_32 : zzOp 3 32 = some (.iconst (-1), 1) := by unfold zzOp; rw [zm_3]; decide +kernel
theorem zo_3_33 : zzOp 3 33 = some (.invokestatic 55, 3) := by unfold zzOp; rw [zm_3]; decide +kernel
theorem zo_3_36 : zzOp 3 36 = some (.aload_n 0, 1) := by unfold zzOp; rw [zm_3]; decide +kernel
theorem zo_3_37 : zzOp 3 37 = some (.getfield 38, 3) := by unfold zzOp; rw [zm_3]; decide +kernel
theorem zo_3_40 : zzOp 3 40 = some (.aload_n 0, 1) := by unfold zzOp; rw [zm_3]; decide +kernel
theorem zo_3_41 : zzOp 3 41 = some (.getfield 25, 3) := by unfold zzOp; rw [zm_3]; decide +kernel
theorem zo_3_44 : zzOp 3 44 = some (.iconst (-1), 1) := by unfold zzOp; rw [zm_3]; decide +kernel
theorem zo_3_45 : zzOp 3 45 = some (.invokestatic 55, 3) := by unfold zzOp; rw [zm_3]; decide +kernel
theorem zo_3_48 : zzOp 3 48 = some (.aload_n 0, 1) := by unfold zzOp; rw [zm_3]; decide +kernel
theorem zo_3_49 : zzOp 3 49 = some (.dup, 1) := by unfold zzOp; rw [zm_3]; decide +kernel
theorem zo_3_50 : zzOp 3 50 = some (.getfield 25, 3) := by unfold zzOp; rw [zm_3]; decide +kernel
theorem zo_3_53 : zzOp 3 53 = some (.iconst 1, 1) := by unfold zzOp; rw [zm_3]; decide +kernel
theorem zo_3_54 : zzOp 3 54 = some (.iadd, 1) := by unfold zzOp; rw [zm_3]; decide +kernel
theorem zo_3_55 : zzOp 3 55 = some (.putfield 25, 3) := by unfold zzOp; rw [zm_3]; decide +kernel
theorem zo_3_58 : zzOp 3 58 = some (.aload_n 0, 1) := by unfold zzOp; rw [zm_3]; decide +kernel
theorem zo_3_59 : zzOp 3 59 = some (.getfield 25, 3) := by unfold zzOp; rw [zm_3]; decide +kernel
theorem zo_3_62 : zzOp 3 62 = some (.iconst 1, 1) := by unfold zzOp; rw [zm_3]; decide +kernel
theorem zo_3_63 : zzOp 3 63 = some (.isub, 1) := by unfold zzOp; rw [zm_3]; decide +kernel
theorem zo_3_64 : zzOp 3 64 = some (.ireturn, 1) := by unfold zzOp; rw [zm_3]; decide +kernel
theorem zf_3_25 : zzGet zzFL (zzM 3).2.2.2.2.1 25 = some (0, 4) := by rw [zm_3]; decide +kernel
theorem zf_3_28 : zzGet zzFL (zzM 3).2.2.2.2.1 28 = some (0, 5) := by rw [zm_3]; decide +kernel
theorem zf_3_32 : zzGet zzFL (zzM 3).2.2.2.2.1 32 = some (0, 6) := by rw [zm_3]; decide +kernel
theorem zf_3_35 : zzGet zzFL (zzM 3).2.2.2.2.1 35 = some (0, 7) := by rw [zm_3]; decide +kernel
theorem zf_3_38 : zzGet zzFL (zzM 3).2.2.2.2.1 38 = some (0, 8) := by rw [zm_3]; decide +kernel
theorem zl_3_55 : zzGet zzML (zzM 3).2.2.2.2.1 55 = some (1, 126) := by rw [zm_3]; decide +kernel
theorem zm_4 : zzM 4 = (yX0_kindOf, cX0_kindOf, 2, (some .int), 0, 2, 1, zzc_4) := rfl
theorem zr_4 : (zzM 4).2.2.2.1 = (some .int) := by rw [zm_4]
theorem zo_4_0 : zzOp 4 0 = some (.aload_n 0, 1) := by unfold zzOp; rw [zm_4]; decide +kernel
theorem zo_4_1 : zzOp 4 1 = some (.getfield 28, 3) := by unfold zzOp; rw [zm_4]; decide +kernel
theorem zo_4_4 : zzOp 4 4 = some (.iload_n 1, 1) := by unfold zzOp; rw [zm_4]; decide +kernel
theorem zo_4_5 : zzOp 4 5 = some (.invokestatic 59, 3) := by unfold zzOp; rw [zm_4]; decide +kernel
theorem zo_4_8 : zzOp 4 8 = some (.ireturn, 1) := by unfold zzOp; rw [zm_4]; decide +kernel
theorem zf_4_28 : zzGet zzFL (zzM 4).2.2.2.2.1 28 = some (0, 5) := by rw [zm_4]; decide +kernel
theorem zl_4_59 : zzGet zzML (zzM 4).2.2.2.2.1 59 = some (1, 125) := by rw [zm_4]; decide +kernel
theorem zm_5 : zzM 5 = (yX0_numberOf, cX0_numberOf, 2, (some .int), 0, 2, 1, zzc_5) := rfl
theorem zr_5 : (zzM 5).2.2.2.1 = (some .int) := by rw [zm_5]
theorem zo_5_0 : zzOp 5 0 = some (.aload_n 0, 1) := by unfold zzOp; rw [zm_5]; decide +kernel
theorem zo_5_1 : zzOp 5 1 = some (.getfield 32, 3) := by unfold zzOp; rw [zm_5]; decide +kernel
theorem zo_5_4 : zzOp 5 4 = some (.iload_n 1, 1) := by unfold zzOp; rw [zm_5]; decide +kernel
theorem zo_5_5 : zzOp 5 5 = some (.invokestatic 59, 3) := by unfold zzOp; rw [zm_5]; decide +kernel
theorem zo_5_8 : zzOp 5 8 = some (.ireturn, 1) := by unfold zzOp; rw [zm_5]; decide +kernel
theorem zf_5_32 : zzGet zzFL (zzM 5).2.2.2.2.1 32 = some (0, 6) := by rw [zm_5]; decide +kernel
theorem zl_5_59 : zzGet zzML (zzM 5).2.2.2.2.1 59 = some (1, 125) := by rw [zm_5]; decide +kernel
theorem zm_6 : zzM 6 = (yX0_friendOf, cX0_friendOf, 2, (some .int), 0, 2, 1, zzc_6) := rfl
theorem zr_6 : (zzM 6).2.2.2.1 = (some .int) := by rw [zm_6]
theorem zo_6_0 : zzOp 6 0 = some (.aload_n 0, 1) := by unfold zzOp; rw [zm_6]; decide +kernel
theorem zo_6_1 : zzOp 6 1 = some (.getfield 35, 3) := by unfold zzOp; rw [zm_6]; decide +kernel
theorem zo_6_4 : zzOp 6 4 = some (.iload_n 1, 1) := by unfold zzOp; rw [zm_6]; decide +kernel
theorem zo_6_5 : zzOp 6 5 = some (.invokestatic 59, 3) := by unfold zzOp; rw [zm_6]; decide +kernel
theorem zo_6_8 : zzOp 6 8 = some (.ireturn, 1) := by unfold zzOp; rw [zm_6]; decide +kernel
theorem zf_6_35 : zzGet zzFL (zzM 6).2.2.2.2.1 35 = some (0, 7) := by rw [zm_6]; decide +kernel
theorem zl_6_59 : zzGet zzML (zzM 6).2.2.2.2.1 59 = some (1, 125) := by rw [zm_6]; decide +kernel
theorem zm_7 : zzM 7 = (yX0_seatOf, cX0_seatOf, 2, (some .int), 0, 2, 1, zzc_7) := rfl
theorem zr_7 : (zzM 7).2.2.2.1 = (some .int) := by rw [zm_7]
theorem zo_7_0 : zzOp 7 0 = some (.iload_n 1, 1) := by unfold zzOp; rw [zm_7]; decide +kernel
theorem zo_7_1 : zzOp 7 1 = some (.ifCond .lt 29, 3) := by unfold zzOp; rw [zm_7]; decide +kernel
theorem zo_7_4 : zzOp 7 4 = some (.iload_n 1, 1) := by unfold zzOp; rw [zm_7]; decide +kernel
theorem zo_7_5 : zzOp 7 5 = some (.aload_n 0, 1) := by unfold zzOp; rw [zm_7]; decide +kernel
theorem zo_7_6 : zzOp 7 6 = some (.getfield 25, 3) := by unfold zzOp; rw [zm_7]; decide +kernel
theorem zo_7_9 : zzOp 7 9 = some (.if_icmp .ge 21, 3) := by unfold zzOp; rw [zm_7]; decide +kernel
theorem zo_7_12 : zzOp 7 12 = some (.iload_n 1, 1) := by unfold zzOp; rw [zm_7]; decide +kernel
theorem zo_7_13 : zzOp 7 13 = some (.aload_n 0, 1) := by unfold zzOp; rw [zm_7]; decide +kernel
theorem zo_7_14 : zzOp 7 14 = some (.getfield 38, 3) := by unfold zzOp; rw [zm_7]; decide +kernel
theorem zo_7_17 : zzOp 7 17 = some (.arraylength, 1) := by unfold zzOp; rw [zm_7]; decide +kernel
theorem zo_7_18 : zzOp 7 18 = some (.if_icmp .ge 12, 3) := by unfold zzOp; rw [zm_7]; decide +kernel
theorem zo_7_21 : zzOp 7 21 = some (.aload_n 0, 1) := by unfold zzOp; rw [zm_7]; decide +kernel
theorem zo_7_22 : zzOp 7 22 = some (.getfield 38, 3) := by unfold zzOp; rw [zm_7]; decide +kernel
theorem zo_7_25 : zzOp 7 25 = some (.iload_n 1, 1) := by unfold zzOp; rw [zm_7]; decide +kernel
theorem zo_7_26 : zzOp 7 26 = some (.iaload, 1) := by unfold zzOp; rw [zm_7]; decide +kernel
theorem zo_7_27 : zzOp 7 27 = some (.goto 4, 3) := by unfold zzOp; rw [zm_7]; decide +kernel
theorem zo_7_30 : zzOp 7 30 = some (.iconst (-1), 1) := by unfold zzOp; rw [zm_7]; decide +kernel
theorem zo_7_31 : zzOp 7 31 = some (.ireturn, 1) := by unfold zzOp; rw [zm_7]; decide +kernel
theorem zf_7_25 : zzGet zzFL (zzM 7).2.2.2.2.1 25 = some (0, 4) := by rw [zm_7]; decide +kernel
theorem zf_7_38 : zzGet zzFL (zzM 7).2.2.2.2.1 38 = some (0, 8) := by rw [zm_7]; decide +kernel
theorem zm_8 : zzM 8 = (yX0_sits, cX0_sits, 2, (some .boolean), 0, 2, 1, zzc_8) := rfl
theorem zr_8 : (zzM 8).2.2.2.1 = (some .boolean) := by rw [zm_8]
theorem zo_8_0 : zzOp 8 0 = some (.aload_n 0, 1) := by unfold zzOp; rw [zm_8]; decide +kernel
theorem zo_8_1 : zzOp 8 1 = some (.iload_n 1, 1) := by unfold zzOp; rw [zm_8]; decide +kernel
theorem zo_8_2 : zzOp 8 2 = some (.invokevirtual 63, 3) := by unfold zzOp; rw [zm_8]; decide +kernel
theorem zo_8_5 : zzOp 8 5 = some (.iconst (-1), 1) := by unfold zzOp; rw [zm_8]; decide +kernel
theorem zo_8_6 : zzOp 8 6 = some (.if_icmp .eq 7, 3) := by unfold zzOp; rw [zm_8]; decide +kernel
theorem zo_8_9 : zzOp 8 9 = some (.iconst 1, 1) := by unfold zzOp; rw [zm_8]; decide +kernel
theorem zo_8_10 : zzOp 8 10 = some (.goto 4, 3) := by unfold zzOp; rw [zm_8]; decide +kernel
theorem zo_8_13 : zzOp 8 13 = some (.iconst 0, 1) := by unfold zzOp; rw [zm_8]; decide +kernel
theorem zo_8_14 : zzOp 8 14 = some (.ireturn, 1) := by unfold zzOp; rw [zm_8]; decide +kernel
theorem zl_8_63 : zzGet zzML (zzM 8).2.2.2.2.1 63 = some (2, 7) := by rw [zm_8]; decide +kernel
theorem zm_9 : zzM 9 = (yX0_sitterAt, cX0_sitterAt, 2, (some .int), 0, 2, 1, zzc_9) := rfl
theorem zr_9 : (zzM 9).2.2.2.1 = (some .int) := by rw [zm_9]
theorem zo_9_0 : zzOp 9 0 = some (.iload_n 1, 1) := by unfold zzOp; rw [zm_9]; decide +kernel
theorem zo_9_1 : zzOp 9 1 = some (.ifCond .lt 21, 3) := by unfold zzOp; rw [zm_9]; decide +kernel
theorem zo_9_4 : zzOp 9 4 = some (.iload_n 1, 1) := by unfold zzOp; rw [zm_9]; decide +kernel
theorem zo_9_5 : zzOp 9 5 = some (.aload_n 0, 1) := by unfold zzOp; rw [zm_9]; decide +kernel
theorem zo_9_6 : zzOp 9 6 = some (.getfield 41, 3) := by unfold zzOp; rw [zm_9]; decide +kernel
theorem zo_9_9 : zzOp 9 9 = some (.arraylength, 1) := by unfold zzOp; rw [zm_9]; decide +kernel
theorem zo_9_10 : zzOp 9 10 = some (.if_icmp .ge 12, 3) := by unfold zzOp; rw [zm_9]; decide +kernel
theorem zo_9_13 : zzOp 9 13 = some (.aload_n 0, 1) := by unfold zzOp; rw [zm_9]; decide +kernel
theorem zo_9_14 : zzOp 9 14 = some (.getfield 41, 3) := by unfold zzOp; rw [zm_9]; decide +kernel
theorem zo_9_17 : zzOp 9 17 = some (.iload_n 1, 1) := by unfold zzOp; rw [zm_9]; decide +kernel
theorem zo_9_18 : zzOp 9 18 = some (.iaload, 1) := by unfold zzOp; rw [zm_9]; decide +kernel
theorem zo_9_19 : zzOp 9 19 = some (.goto 4, 3) := by unfold zzOp; rw [zm_9]; decide +kernel
theorem zo_9_22 : zzOp 9 22 = some (.iconst (-1), 1) := by unfold zzOp; rw [zm_9]; decide +kernel
theorem zo_9_23 : zzOp 9 23 = some (.ireturn, 1) := by unfold zzOp; rw [zm_9]; decide +kernel
theorem zf_9_41 : zzGet zzFL (zzM 9).2.2.2.2.1 41 = some (0, 9) := by rw [zm_9]; decide +kernel
theorem zm_10 : zzM 10 = (yX0_isOpen, cX0_isOpen, 4, (some .boolean), 0, 3, 1, zzc_10) := rfl
theorem zr_10 : (zzM 10).2.2.2.1 = (some .boolean) := by rw [zm_10]
theorem zo_10_0 : zzOp 10 0 = some (.aload_n 0, 1) := by unfold zzOp; rw [zm_10]; decide +kernel
theorem zo_10_1 : zzOp 10 1 = some (.iload_n 1, 1) := by unfold zzOp; rw [zm_10]; decide +kernel
theorem zo_10_2 : zzOp 10 2 = some (.invokevirtual 67, 3) := by unfold zzOp; rw [zm_10]; decide +kernel
theorem zo_10_5 : zzOp 10 5 = some (.istore_n 3, 1) := by unfold zzOp; rw [zm_10]; decide +kernel
theorem zo_10_6 : zzOp 10 6 = some (.iload_n 3, 1) := by unfold zzOp; rw [zm_10]; decide +kernel
theorem zo_10_7 : zzOp 10 7 = some (.iconst (-1), 1) := by unfold zzOp; rw [zm_10]; decide +kernel
theorem zo_10_8 : zzOp 10 8 = some (.if_icmp .eq 8, 3) := by unfold zzOp; rw [zm_10]; decide +kernel
theorem zo_10_11 : zzOp 10 11 = some (.iload_n 3, 1) := by unfold zzOp; rw [zm_10]; decide +kernel
theorem zo_10_12 : zzOp 10 12 = some (.iload_n 2, 1) := by unfold zzOp; rw [zm_10]; decide +kernel
theorem zo_10_13 : zzOp 10 13 = some (.if_icmp .ne 7, 3) := by unfold zzOp; rw [zm_10]; decide +kernel
theorem zo_10_16 : zzOp 10 16 = some (.iconst 1, 1) := by unfold zzOp; rw [zm_10]; decide +kernel
theorem zo_10_17 : zzOp 10 17 = some (.goto 4, 3) := by unfold zzOp; rw [zm_10]; decide +kernel
theorem zo_10_20 : zzOp 10 20 = some (.iconst 0, 1) := by unfold zzOp; rw [zm_10]; decide +kernel
theorem zo_10_21 : zzOp 10 21 = some (.ireturn, 1) := by unfold zzOp; rw [zm_10]; decide +kernel
theorem zl_10_67 : zzGet zzML (zzM 10).2.2.2.2.1 67 = some (2, 9) := by rw [zm_10]; decide +kernel
theorem zm_11 : zzM 11 = (yX0_move, cX0_move, 3, none, 0, 3, 1, zzc_11) := rfl
theorem zr_11 : (zzM 11).2.2.2.1 = none := by rw [zm_11]
theorem zo_11_0 : zzOp 11 0 = some (.aload_n 0, 1) := by unfold zzOp; rw [zm_11]; decide +kernel
theorem zo_11_1 : zzOp 11 1 = some (.getfield 41, 3) := by unfold zzOp; rw [zm_11]; decide +kernel
theorem zo_11_4 : zzOp 11 4 = some (.aload_n 0, 1) := by unfold zzOp; rw [zm_11]; decide +kernel
theorem zo_11_5 : zzOp 11 5 = some (.iload_n 1, 1) := by unfold zzOp; rw [zm_11]; decide +kernel
theorem zo_11_6 : zzOp 11 6 = some (.invokevirtual 63, 3) := by unfold zzOp; rw [zm_11]; decide +kernel
theorem zo_11_9 : zzOp 11 9 = some (.iconst (-1), 1) := by unfold zzOp; rw [zm_11]; decide +kernel
theorem zo_11_10 : zzOp 11 10 = some (.invokestatic 55, 3) := by unfold zzOp; rw [zm_11]; decide +kernel
theorem zo_11_13 : zzOp 11 13 = some (.aload_n 0, 1) := by unfold zzOp; rw [zm_11]; decide +kernel
theorem zo_11_14 : zzOp 11 14 = some (.getfield 38, 3) := by unfold zzOp; rw [zm_11]; decide +kernel
theorem zo_11_17 : zzOp 11 17 = some (.iload_n 1, 1) := by unfold zzOp; rw [zm_11]; decide +kernel
theorem zo_11_18 : zzOp 11 18 = some (.iload_n 2, 1) := by unfold zzOp; rw [zm_11]; decide +kernel
theorem zo_11_19 : zzOp 11 19 = some (.invokestatic 55, 3) := by unfold zzOp; rw [zm_11]; decide +kernel
theorem zo_11_22 : zzOp 11 22 = some (.aload_n 0, 1) := by unfold zzOp; rw [zm_11]; decide +kernel
theorem zo_11_23 : zzOp 11 23 = some (.getfield 41, 3) := by unfold zzOp; rw [zm_11]; decide +kernel
theorem zo_11_26 : zzOp 11 26 = some (.iload_n 2, 1) := by unfold zzOp; rw [zm_11]; decide +kernel
theorem zo_11_27 : zzOp 11 27 = some (.iload_n 1, 1) := by unfold zzOp; rw [zm_11]; decide +kernel
theorem zo_11_28 : zzOp 11 28 = some (.invokestatic 55, 3) := by unfold zzOp; rw [zm_11]; decide +kernel
theorem zo_11_31 : zzOp 11 31 = some (.return_, 1) := by unfold zzOp; rw [zm_11]; decide +kernel
theorem zf_11_38 : zzGet zzFL (zzM 11).2.2.2.2.1 38 = some (0, 8) := by rw [zm_11]; decide +kernel
theorem zf_11_41 : zzGet zzFL (zzM 11).2.2.2.2.1 41 = some (0, 9) := by rw [zm_11]; decide +kernel
theorem zl_11_55 : zzGet zzML (zzM 11).2.2.2.2.1 55 = some (1, 126) := by rw [zm_11]; decide +kernel
theorem zl_11_63 : zzGet zzML (zzM 11).2.2.2.2.1 63 = some (2, 7) := by rw [zm_11]; decide +kernel
theorem zm_12 : zzM 12 = (yX0_exchange, cX0_exchange, 5, none, 0, 3, 1, zzc_12) := rfl
theorem zr_12 : (zzM 12).2.2.2.1 = none := by rw [zm_12]
theorem zo_12_0 : zzOp 12 0 = some (.aload_n 0, 1) := by unfold zzOp; rw [zm_12]; decide +kernel
theorem zo_12_1 : zzOp 12 1 = some (.iload_n 1, 1) := by unfold zzOp; rw [zm_12]; decide +kernel
theorem zo_12_2 : zzOp 12 2 = some (.invokevirtual 63, 3) := by unfold zzOp; rw [zm_12]; decide +kernel
theorem zo_12_5 : zzOp 12 5 = some (.istore_n 3, 1) := by unfold zzOp; rw [zm_12]; decide +kernel
theorem zo_12_6 : zzOp 12 6 = some (.aload_n 0, 1) := by unfold zzOp; rw [zm_12]; decide +kernel
theorem zo_12_7 : zzOp 12 7 = some (.iload_n 2, 1) := by unfold zzOp; rw [zm_12]; decide +kernel
theorem zo_12_8 : zzOp 12 8 = some (.invokevirtual 63, 3) := by unfold zzOp; rw [zm_12]; decide +kernel
theorem zo_12_11 : zzOp 12 11 = some (.istore 4, 2) := by unfold zzOp; rw [zm_12]; decide +kernel
theorem zo_12_13 : zzOp 12 13 = some (.aload_n 0, 1) := by unfold zzOp; rw [zm_12]; decide +kernel
theorem zo_12_14 : zzOp 12 14 = some (.iload_n 1, 1) := by unfold zzOp; rw [zm_12]; decide +kernel
theorem zo_12_15 : zzOp 12 15 = some (.iconst (-1), 1) := by unfold zzOp; rw [zm_12]; decide +kernel
theorem zo_12_16 : zzOp 12 16 = some (.invokevirtual 70, 3) := by unfold zzOp; rw [zm_12]; decide +kernel
theorem zo_12_19 : zzOp 12 19 = some (.aload_n 0, 1) := by unfold zzOp; rw [zm_12]; decide +kernel
theorem zo_12_20 : zzOp 12 20 = some (.iload_n 2, 1) := by unfold zzOp; rw [zm_12]; decide +kernel
theorem zo_12_21 : zzOp 12 21 = some (.iload_n 3, 1) := by unfold zzOp; rw [zm_12]; decide +kernel
theorem zo_12_22 : zzOp 12 22 = some (.invokevirtual 70, 3) := by unfold zzOp; rw [zm_12]; decide +kernel
theorem zo_12_25 : zzOp 12 25 = some (.aload_n 0, 1) := by unfold zzOp; rw [zm_12]; decide +kernel
theorem zo_12_26 : zzOp 12 26 = some (.iload_n 1, 1) := by unfold zzOp; rw [zm_12]; decide +kernel
theorem zo_12_27 : zzOp 12 27 = some (.iload 4, 2) := by unfold zzOp; rw [zm_12]; decide +kernel
theorem zo_12_29 : zzOp 12 29 = some (.invokevirtual 70, 3) := by unfold zzOp; rw [zm_12]; decide +kernel
theorem zo_12_32 : zzOp 12 32 = some (.return_, 1) := by unfold zzOp; rw [zm_12]; decide +kernel
theorem zl_12_63 : zzGet zzML (zzM 12).2.2.2.2.1 63 = some (2, 7) := by rw [zm_12]; decide +kernel
theorem zl_12_70 : zzGet zzML (zzM 12).2.2.2.2.1 70 = some (2, 11) := by rw [zm_12]; decide +kernel
theorem zm_13 : zzM 13 = (yX0_firstFreeFrom, cX0_firstFreeFrom, 3, (some .int), 0, 2, 1, zzc_13) := rfl
theorem zr_13 : (zzM 13).2.2.2.1 = (some .int) := by rw [zm_13]
theorem zo_13_0 : zzOp 13 0 = some (.iconst 0, 1) := by unfold zzOp; rw [zm_13]; decide +kernel
theorem zo_13_1 : zzOp 13 1 = some (.istore_n 2, 1) := by unfold zzOp; rw [zm_13]; decide +kernel
theorem zo_13_2 : zzOp 13 2 = some (.iload_n 2, 1) := by unfold zzOp; rw [zm_13]; decide +kernel
theorem zo_13_3 : zzOp 13 3 = some (.bipush 24, 2) := by unfold zzOp; rw [zm_13]; decide +kernel
theorem zo_13_5 : zzOp 13 5 = some (.if_icmp .ge 30, 3) := by unfold zzOp; rw [zm_13]; decide +kernel
theorem zo_13_8 : zzOp 13 8 = some (.aload_n 0, 1) := by unfold zzOp; rw [zm_13]; decide +kernel
theorem zo_13_9 : zzOp 13 9 = some (.iload_n 1, 1) := by unfold zzOp; rw [zm_13]; decide +kernel
theorem zo_13_10 : zzOp 13 10 = some (.iload_n 2, 1) := by unfold zzOp; rw [zm_13]; decide +kernel
theorem zo_13_11 : zzOp 13 11 = some (.iadd, 1) := by unfold zzOp; rw [zm_13]; decide +kernel
theorem zo_13_12 : zzOp 13 12 = some (.bipush 24, 2) := by unfold zzOp; rw [zm_13]; decide +kernel
theorem zo_13_14 : zzOp 13 14 = some (.irem, 1) := by unfold zzOp; rw [zm_13]; decide +kernel
theorem zo_13_15 : zzOp 13 15 = some (.invokevirtual 67, 3) := by unfold zzOp; rw [zm_13]; decide +kernel
theorem zo_13_18 : zzOp 13 18 = some (.iconst (-1), 1) := by unfold zzOp; rw [zm_13]; decide +kernel
theorem zo_13_19 : zzOp 13 19 = some (.if_icmp .ne 10, 3) := by unfold zzOp; rw [zm_13]; decide +kernel
theorem zo_13_22 : zzOp 13 22 = some (.iload_n 1, 1) := by unfold zzOp; rw [zm_13]; decide +kernel
theorem zo_13_23 : zzOp 13 23 = some (.iload_n 2, 1) := by unfold zzOp; rw [zm_13]; decide +kernel
theorem zo_13_24 : zzOp 13 24 = some (.iadd, 1) := by unfold zzOp; rw [zm_13]; decide +kernel
theorem zo_13_25 : zzOp 13 25 = some (.bipush 24, 2) := by unfold zzOp; rw [zm_13]; decide +kernel
theorem zo_13_27 : zzOp 13 27 = some (.irem, 1) := by unfold zzOp; rw [zm_13]; decide +kernel
theorem zo_13_28 : zzOp 13 28 = some (.ireturn, 1) := by unfold zzOp; rw [zm_13]; decide +kernel
theorem zo_13_29 : zzOp 13 29 = some (.iinc 2 1, 3) := by unfold zzOp; rw [zm_13]; decide +kernel
theorem zo_13_32 : zzOp 13 32 = some (.goto (-30), 3) := by unfold zzOp; rw [zm_13]; decide +kernel
theorem zo_13_35 : zzOp 13 35 = some (.iconst (-1), 1) := by unfold zzOp; rw [zm_13]; decide +kernel
theorem zo_13_36 : zzOp 13 36 = some (.ireturn, 1) := by unfold zzOp; rw [zm_13]; decide +kernel
theorem zl_13_67 : zzGet zzML (zzM 13).2.2.2.2.1 67 = some (2, 9) := by rw [zm_13]; decide +kernel
theorem zm_14 : zzM 14 = (yX0_firstFreeInFront, cX0_firstFreeInFront, 2, (some .int), 0, 1, 1, zzc_14) := rfl
theorem zr_14 : (zzM 14).2.2.2.1 = (some .int) := by rw [zm_14]
theorem zo_14_0 : zzOp 14 0 = some (.aload_n 0, 1) := by unfold zzOp; rw [zm_14]; decide +kernel
theorem zo_14_1 : zzOp 14 1 = some (.iconst 0, 1) := by unfold zzOp; rw [zm_14]; decide +kernel
theorem zo_14_2 : zzOp 14 2 = some (.invokevirtual 74, 3) := by unfold zzOp; rw [zm_14]; decide +kernel
theorem zo_14_5 : zzOp 14 5 = some (.istore_n 1, 1) := by unfold zzOp; rw [zm_14]; decide +kernel
theorem zo_14_6 : zzOp 14 6 = some (.iload_n 1, 1) := by unfold zzOp; rw [zm_14]; decide +kernel
theorem zo_14_7 : zzOp 14 7 = some (.iconst 4, 1) := by unfold zzOp; rw [zm_14]; decide +kernel
theorem zo_14_8 : zzOp 14 8 = some (.if_icmp .ge 7, 3) := by unfold zzOp; rw [zm_14]; decide +kernel
theorem zo_14_11 : zzOp 14 11 = some (.iload_n 1, 1) := by unfold zzOp; rw [zm_14]; decide +kernel
theorem zo_14_12 : zzOp 14 12 = some (.goto 4, 3) := by unfold zzOp; rw [zm_14]; decide +kernel
theorem zo_14_15 : zzOp 14 15 = some (.iconst (-1), 1) := by unfold zzOp; rw [zm_14]; decide +kernel
theorem zo_14_16 : zzOp 14 16 = some (.ireturn, 1) := by unfold zzOp; rw [zm_14]; decide +kernel
theorem zl_14_74 : zzGet zzML (zzM 14).2.2.2.2.1 74 = some (2, 13) := by rw [zm_14]; decide +kernel
theorem zm_15 : zzM 15 = (yX0_firstTeacher, cX0_firstTeacher, 2, (some .int), 0, 1, 1, zzc_15) := rfl
theorem zr_15 : (zzM 15).2.2.2.1 = (some .int) := by rw [zm_15]
theorem zo_15_0 : zzOp 15 0 = some (.iconst 0, 1) := by unfold zzOp; rw [zm_15]; decide +kernel
theorem zo_15_1 : zzOp 15 1 = some (.istore_n 1, 1) := by unfold zzOp; rw [zm_15]; decide +kernel
theorem zo_15_2 : zzOp 15 2 = some (.iload_n 1, 1) := by unfold zzOp; rw [zm_15]; decide +kernel
theorem zo_15_3 : zzOp 15 3 = some (.aload_n 0, 1) := by unfold zzOp; rw [zm_15]; decide +kernel
theorem zo_15_4 : zzOp 15 4 = some (.getfield 25, 3) := by unfold zzOp; rw [zm_15]; decide +kernel
theorem zo_15_7 : zzOp 15 7 = some (.if_icmp .ge 27, 3) := by unfold zzOp; rw [zm_15]; decide +kernel
theorem zo_15_10 : zzOp 15 10 = some (.aload_n 0, 1) := by unfold zzOp; rw [zm_15]; decide +kernel
theorem zo_15_11 : zzOp 15 11 = some (.iload_n 1, 1) := by unfold zzOp; rw [zm_15]; decide +kernel
theorem zo_15_12 : zzOp 15 12 = some (.invokevirtual 77, 3) := by unfold zzOp; rw [zm_15]; decide +kernel
theorem zo_15_15 : zzOp 15 15 = some (.ifCond .eq 13, 3) := by unfold zzOp; rw [zm_15]; decide +kernel
theorem zo_15_18 : zzOp 15 18 = some (.aload_n 0, 1) := by unfold zzOp; rw [zm_15]; decide +kernel
theorem zo_15_19 : zzOp 15 19 = some (.iload_n 1, 1) := by unfold zzOp; rw [zm_15]; decide +kernel
theorem zo_15_20 : zzOp 15 20 = some (.invokevirtual 81, 3) := by unfold zzOp; rw [zm_15]; decide +kernel
theorem zo_15_23 : zzOp 15 23 = some (.ifCond .eq 5, 3) := by unfold zzOp; rw [zm_15]; decide +kernel
theorem zo_15_26 : zzOp 15 26 = some (.iload_n 1, 1) := by unfold zzOp; rw [zm_15]; decide +kernel
theorem zo_15_27 : zzOp 15 27 = some (.ireturn, 1) := by unfold zzOp; rw [zm_15]; decide +kernel
theorem zo_15_28 : zzOp 15 28 = some (.iinc 1 1, 3) := by unfold zzOp; rw [zm_15]; decide +kernel
theorem zo_15_31 : zzOp 15 31 = some (.goto (-29), 3) := by unfold zzOp; rw [zm_15]; decide +kernel
theorem zo_15_34 : zzOp 15 34 = some (.iconst (-1), 1) := by unfold zzOp; rw [zm_15]; decide +kernel
theorem zo_15_35 : zzOp 15 35 = some (.ireturn, 1) := by unfold zzOp; rw [zm_15]; decide +kernel
theorem zf_15_25 : zzGet zzFL (zzM 15).2.2.2.2.1 25 = some (0, 4) := by rw [zm_15]; decide +kernel
theorem zl_15_77 : zzGet zzML (zzM 15).2.2.2.2.1 77 = some (2, 8) := by rw [zm_15]; decide +kernel
theorem zl_15_81 : zzGet zzML (zzM 15).2.2.2.2.1 81 = some (2, 19) := by rw [zm_15]; decide +kernel
theorem zm_16 : zzM 16 = (yX0_areBeside, cX0_areBeside, 5, (some .boolean), 0, 3, 1, zzc_16) := rfl
theorem zr_16 : (zzM 16).2.2.2.1 = (some .boolean) := by rw [zm_16]
theorem zo_16_0 : zzOp 16 0 = some (.aload_n 0, 1) := by unfold zzOp; rw [zm_16]; decide +kernel
theorem zo_16_1 : zzOp 16 1 = some (.iload_n 1, 1) := by unfold zzOp; rw [zm_16]; decide +kernel
theorem zo_16_2 : zzOp 16 2 = some (.invokevirtual 63, 3) := by unfold zzOp; rw [zm_16]; decide +kernel
theorem zo_16_5 : zzOp 16 5 = some (.istore_n 3, 1) := by unfold zzOp; rw [zm_16]; decide +kernel
theorem zo_16_6 : zzOp 16 6 = some (.aload_n 0, 1) := by unfold zzOp; rw [zm_16]; decide +kernel
theorem zo_16_7 : zzOp 16 7 = some (.iload_n 2, 1) := by unfold zzOp; rw [zm_16]; decide +kernel
theorem zo_16_8 : zzOp 16 8 = some (.invokevirtual 63, 3) := by unfold zzOp; rw [zm_16]; decide +kernel
theorem zo_16_11 : zzOp 16 11 = some (.istore 4, 2) := by unfold zzOp; rw [zm_16]; decide +kernel
theorem zo_16_13 : zzOp 16 13 = some (.iload 4, 2) := by unfold zzOp; rw [zm_16]; decide +kernel
theorem zo_16_15 : zzOp 16 15 = some (.iconst (-1), 1) := by unfold zzOp; rw [zm_16]; decide +kernel
theorem zo_16_16 : zzOp 16 16 = some (.if_icmp .eq 25, 3) := by unfold zzOp; rw [zm_16]; decide +kernel
theorem zo_16_19 : zzOp 16 19 = some (.iload_n 3, 1) := by unfold zzOp; rw [zm_16]; decide +kernel
theorem zo_16_20 : zzOp 16 20 = some (.invokestatic 84, 3) := by unfold zzOp; rw [zm_16]; decide +kernel
theorem zo_16_23 : zzOp 16 23 = some (.iload 4, 2) := by unfold zzOp; rw [zm_16]; decide +kernel
theorem zo_16_25 : zzOp 16 25 = some (.if_icmp .eq 12, 3) := by unfold zzOp; rw [zm_16]; decide +kernel
theorem zo_16_28 : zzOp 16 28 = some (.iload_n 3, 1) := by unfold zzOp; rw [zm_16]; decide +kernel
theorem zo_16_29 : zzOp 16 29 = some (.invokestatic 87, 3) := by unfold zzOp; rw [zm_16]; decide +kernel
theorem zo_16_32 : zzOp 16 32 = some (.iload 4, 2) := by unfold zzOp; rw [zm_16]; decide +kernel
theorem zo_16_34 : zzOp 16 34 = some (.if_icmp .ne 7, 3) := by unfold zzOp; rw [zm_16]; decide +kernel
theorem zo_16_37 : zzOp 16 37 = some (.iconst 1, 1) := by unfold zzOp; rw [zm_16]; decide +kernel
theorem zo_16_38 : zzOp 16 38 = some (.goto 4, 3) := by unfold zzOp; rw [zm_16]; decide +kernel
theorem zo_16_41 : zzOp 16 41 = some (.iconst 0, 1) := by unfold zzOp; rw [zm_16]; decide +kernel
theorem zo_16_42 : zzOp 16 42 = some (.ireturn, 1) := by unfold zzOp; rw [zm_16]; decide +kernel
theorem zl_16_63 : zzGet zzML (zzM 16).2.2.2.2.1 63 = some (2, 7) := by rw [zm_16]; decide +kernel
theorem zl_16_84 : zzGet zzML (zzM 16).2.2.2.2.1 84 = some (1, 130) := by rw [zm_16]; decide +kernel
theorem zl_16_87 : zzGet zzML (zzM 16).2.2.2.2.1 87 = some (1, 131) := by rw [zm_16]; decide +kernel
theorem zm_17 : zzM 17 = (yX0_neighbours, cX0_neighbours, 5, (some .int), 0, 2, 1, zzc_17) := rfl
theorem zr_17 : (zzM 17).2.2.2.1 = (some .int) := by rw [zm_17]
theorem zo_17_0 : zzOp 17 0 = some (.aload_n 0, 1) := by unfold zzOp; rw [zm_17]; decide +kernel
theorem zo_17_1 : zzOp 17 1 = some (.iload_n 1, 1) := by unfold zzOp; rw [zm_17]; decide +kernel
theorem zo_17_2 : zzOp 17 2 = some (.invokevirtual 63, 3) := by unfold zzOp; rw [zm_17]; decide +kernel
theorem zo_17_5 : zzOp 17 5 = some (.istore_n 2, 1) := by unfold zzOp; rw [zm_17]; decide +kernel
theorem zo_17_6 : zzOp 17 6 = some (.aload_n 0, 1) := by unfold zzOp; rw [zm_17]; decide +kernel
theorem zo_17_7 : zzOp 17 7 = some (.iload_n 2, 1) := by unfold zzOp; rw [zm_17]; decide +kernel
theorem zo_17_8 : zzOp 17 8 = some (.invokestatic 84, 3) := by unfold zzOp; rw [zm_17]; decide +kernel
theorem zo_17_11 : zzOp 17 11 = some (.invokevirtual 67, 3) := by unfold zzOp; rw [zm_17]; decide +kernel
theorem zo_17_14 : zzOp 17 14 = some (.istore_n 3, 1) := by unfold zzOp; rw [zm_17]; decide +kernel
theorem zo_17_15 : zzOp 17 15 = some (.aload_n 0, 1) := by unfold zzOp; rw [zm_17]; decide +kernel
theorem zo_17_16 : zzOp 17 16 = some (.iload_n 2, 1) := by unfold zzOp; rw [zm_17]; decide +kernel
theorem zo_17_17 : zzOp 17 17 = some (.invokestatic 87, 3) := by unfold zzOp; rw [zm_17]; decide +kernel
theorem zo_17_20 : zzOp 17 20 = some (.invokevirtual 67, 3) := by unfold zzOp; rw [zm_17]; decide +kernel
theorem zo_17_23 : zzOp 17 23 = some (.istore 4, 2) := by unfold zzOp; rw [zm_17]; decide +kernel
theorem zo_17_25 : zzOp 17 25 = some (.iload_n 3, 1) := by unfold zzOp; rw [zm_17]; decide +kernel
theorem zo_17_26 : zzOp 17 26 = some (.iconst (-1), 1) := by unfold zzOp; rw [zm_17]; decide +kernel
theorem zo_17_27 : zzOp 17 27 = some (.if_icmp .ne 7, 3) := by unfold zzOp; rw [zm_17]; decide +kernel
theorem zo_17_30 : zzOp 17 30 = some (.iconst 0, 1) := by unfold zzOp; rw [zm_17]; decide +kernel
theorem zo_17_31 : zzOp 17 31 = some (.goto 4, 3) := by unfold zzOp; rw [zm_17]; decide +kernel
theorem zo_17_34 : zzOp 17 34 = some (.iconst 1, 1) := by unfold zzOp; rw [zm_17]; decide +kernel
theorem zo_17_35 : zzOp 17 35 = some (.iload 4, 2) := by unfold zzOp; rw [zm_17]; decide +kernel
theorem zo_17_37 : zzOp 17 37 = some (.iconst (-1), 1) := by unfold zzOp; rw [zm_17]; decide +kernel
theorem zo_17_38 : zzOp 17 38 = some (.if_icmp .ne 7, 3) := by unfold zzOp; rw [zm_17]; decide +kernel
theorem zo_17_41 : zzOp 17 41 = some (.iconst 0, 1) := by unfold zzOp; rw [zm_17]; decide +kernel
theorem zo_17_42 : zzOp 17 42 = some (.goto 4, 3) := by unfold zzOp; rw [zm_17]; decide +kernel
theorem zo_17_45 : zzOp 17 45 = some (.iconst 1, 1) := by unfold zzOp; rw [zm_17]; decide +kernel
theorem zo_17_46 : zzOp 17 46 = some (.iadd, 1) := by unfold zzOp; rw [zm_17]; decide +kernel
theorem zo_17_47 : zzOp 17 47 = some (.ireturn, 1) := by unfold zzOp; rw [zm_17]; decide +kernel
theorem zl_17_63 : zzGet zzML (zzM 17).2.2.2.2.1 63 = some (2, 7) := by rw [zm_17]; decide +kernel
theorem zl_17_67 : zzGet zzML (zzM 17).2.2.2.2.1 67 = some (2, 9) := by rw [zm_17]; decide +kernel
theorem zl_17_84 : zzGet zzML (zzM 17).2.2.2.2.1 84 = some (1, 130) := by rw [zm_17]; decide +kernel
theorem zl_17_87 : zzGet zzML (zzM 17).2.2.2.2.1 87 = some (1, 131) := by rw [zm_17]; decide +kernel
theorem zm_18 : zzM 18 = (yX0_isWatched, cX0_isWatched, 3, (some .boolean), 0, 2, 1, zzc_18) := rfl
theorem zr_18 : (zzM 18).2.2.2.1 = (some .boolean) := by rw [zm_18]
theorem zo_18_0 : zzOp 18 0 = some (.aload_n 0, 1) := by unfold zzOp; rw [zm_18]; decide +kernel
theorem zo_18_1 : zzOp 18 1 = some (.iload_n 1, 1) := by unfold zzOp; rw [zm_18]; decide +kernel
theorem zo_18_2 : zzOp 18 2 = some (.invokevirtual 63, 3) := by unfold zzOp; rw [zm_18]; decide +kernel
theorem zo_18_5 : zzOp 18 5 = some (.istore_n 2, 1) := by unfold zzOp; rw [zm_18]; decide +kernel
theorem zo_18_6 : zzOp 18 6 = some (.aload_n 0, 1) := by unfold zzOp; rw [zm_18]; decide +kernel
theorem zo_18_7 : zzOp 18 7 = some (.aload_n 0, 1) := by unfold zzOp; rw [zm_18]; decide +kernel
theorem zo_18_8 : zzOp 18 8 = some (.iload_n 2, 1) := by unfold zzOp; rw [zm_18]; decide +kernel
theorem zo_18_9 : zzOp 18 9 = some (.invokestatic 84, 3) := by unfold zzOp; rw [zm_18]; decide +kernel
theorem zo_18_12 : zzOp 18 12 = some (.invokevirtual 67, 3) := by unfold zzOp; rw [zm_18]; decide +kernel
theorem zo_18_15 : zzOp 18 15 = some (.invokevirtual 81, 3) := by unfold zzOp; rw [zm_18]; decide +kernel
theorem zo_18_18 : zzOp 18 18 = some (.ifCond .ne 18, 3) := by unfold zzOp; rw [zm_18]; decide +kernel
theorem zo_18_21 : zzOp 18 21 = some (.aload_n 0, 1) := by unfold zzOp; rw [zm_18]; decide +kernel
theorem zo_18_22 : zzOp 18 22 = some (.aload_n 0, 1) := by unfold zzOp; rw [zm_18]; decide +kernel
theorem zo_18_23 : zzOp 18 23 = some (.iload_n 2, 1) := by unfold zzOp; rw [zm_18]; decide +kernel
theorem zo_18_24 : zzOp 18 24 = some (.invokestatic 87, 3) := by unfold zzOp; rw [zm_18]; decide +kernel
theorem zo_18_27 : zzOp 18 27 = some (.invokevirtual 67, 3) := by unfold zzOp; rw [zm_18]; decide +kernel
theorem zo_18_30 : zzOp 18 30 = some (.invokevirtual 81, 3) := by unfold zzOp; rw [zm_18]; decide +kernel
theorem zo_18_33 : zzOp 18 33 = some (.ifCond .eq 7, 3) := by unfold zzOp; rw [zm_18]; decide +kernel
theorem zo_18_36 : zzOp 18 36 = some (.iconst 1, 1) := by unfold zzOp; rw [zm_18]; decide +kernel
theorem zo_18_37 : zzOp 18 37 = some (.goto 4, 3) := by unfold zzOp; rw [zm_18]; decide +kernel
theorem zo_18_40 : zzOp 18 40 = some (.iconst 0, 1) := by unfold zzOp; rw [zm_18]; decide +kernel
theorem zo_18_41 : zzOp 18 41 = some (.ireturn, 1) := by unfold zzOp; rw [zm_18]; decide +kernel
theorem zl_18_63 : zzGet zzML (zzM 18).2.2.2.2.1 63 = some (2, 7) := by rw [zm_18]; decide +kernel
theorem zl_18_67 : zzGet zzML (zzM 18).2.2.2.2.1 67 = some (2, 9) := by rw [zm_18]; decide +kernel
theorem zl_18_81 : zzGet zzML (zzM 18).2.2.2.2.1 81 = some (2, 19) := by rw [zm_18]; decide +kernel
theorem zl_18_84 : zzGet zzML (zzM 18).2.2.2.2.1 84 = some (1, 130) := by rw [zm_18]; decide +kernel
theorem zl_18_87 : zzGet zzML (zzM 18).2.2.2.2.1 87 = some (1, 131) := by rw [zm_18]; decide +kernel
theorem zm_19 : zzM 19 = (yX0_isTeacher, cX0_isTeacher, 2, (some .boolean), 0, 2, 1, zzc_19) := rfl
theorem zr_19 : (zzM 19).2.2.2.1 = (some .boolean) := by rw [zm_19]
theorem zo_19_0 : zzOp 19 0 = some (.aload_n 0, 1) := by unfold zzOp; rw [zm_19]; decide +kernel
theorem zo_19_1 : zzOp 19 1 = some (.iload_n 1, 1) := by unfold zzOp; rw [zm_19]; decide +kernel
theorem zo_19_2 : zzOp 19 2 = some (.invokevirtual 90, 3) := by unfold zzOp; rw [zm_19]; decide +kernel
theorem zo_19_5 : zzOp 19 5 = some (.ifCond .eq 19, 3) := by unfold zzOp; rw [zm_19]; decide +kernel
theorem zo_19_8 : zzOp 19 8 = some (.aload_n 0, 1) := by unfold zzOp; rw [zm_19]; decide +kernel
theorem zo_19_9 : zzOp 19 9 = some (.getfield 28, 3) := by unfold zzOp; rw [zm_19]; decide +kernel
theorem zo_19_12 : zzOp 19 12 = some (.iload_n 1, 1) := by unfold zzOp; rw [zm_19]; decide +kernel
theorem zo_19_13 : zzOp 19 13 = some (.invokestatic 59, 3) := by unfold zzOp; rw [zm_19]; decide +kernel
theorem zo_19_16 : zzOp 19 16 = some (.iconst 5, 1) := by unfold zzOp; rw [zm_19]; decide +kernel
theorem zo_19_17 : zzOp 19 17 = some (.if_icmp .ne 7, 3) := by unfold zzOp; rw [zm_19]; decide +kernel
theorem zo_19_20 : zzOp 19 20 = some (.iconst 1, 1) := by unfold zzOp; rw [zm_19]; decide +kernel
theorem zo_19_21 : zzOp 19 21 = some (.goto 4, 3) := by unfold zzOp; rw [zm_19]; decide +kernel
theorem zo_19_24 : zzOp 19 24 = some (.iconst 0, 1) := by unfold zzOp; rw [zm_19]; decide +kernel
theorem zo_19_25 : zzOp 19 25 = some (.ireturn, 1) := by unfold zzOp; rw [zm_19]; decide +kernel
theorem zf_19_28 : zzGet zzFL (zzM 19).2.2.2.2.1 28 = some (0, 5) := by rw [zm_19]; decide +kernel
theorem zl_19_59 : zzGet zzML (zzM 19).2.2.2.2.1 59 = some (1, 125) := by rw [zm_19]; decide +kernel
theorem zl_19_90 : zzGet zzML (zzM 19).2.2.2.2.1 90 = some (2, 2) := by rw [zm_19]; decide +kernel
theorem zm_20 : zzM 20 = (yX0_telling, cX0_telling, 6, (some .int), 0, 4, 1, zzc_20) := rfl
theorem zr_20 : (zzM 20).2.2.2.1 = (some .int) := by rw [zm_20]
theorem zo_20_0 : zzOp 20 0 = some (.aload_n 0, 1) := by unfold zzOp; rw [zm_20]; decide +kernel
theorem zo_20_1 : zzOp 20 1 = some (.iload_n 2, 1) := by unfold zzOp; rw [zm_20]; decide +kernel
theorem zo_20_2 : zzOp 20 2 = some (.invokevirtual 63, 3) := by unfold zzOp; rw [zm_20]; decide +kernel
theorem zo_20_5 : zzOp 20 5 = some (.istore 4, 2) := by unfold zzOp; rw [zm_20]; decide +kernel
theorem zo_20_7 : zzOp 20 7 = some (.aload_n 0, 1) := by unfold zzOp; rw [zm_20]; decide +kernel
theorem zo_20_8 : zzOp 20 8 = some (.getfield 48, 3) := by unfold zzOp; rw [zm_20]; decide +kernel
theorem zo_20_11 : zzOp 20 11 = some (.iconst 0, 1) := by unfold zzOp; rw [zm_20]; decide +kernel
theorem zo_20_12 : zzOp 20 12 = some (.iload 4, 2) := by unfold zzOp; rw [zm_20]; decide +kernel
theorem zo_20_14 : zzOp 20 14 = some (.iconst 4, 1) := by unfold zzOp; rw [zm_20]; decide +kernel
theorem zo_20_15 : zzOp 20 15 = some (.idiv, 1) := by unfold zzOp; rw [zm_20]; decide +kernel
theorem zo_20_16 : zzOp 20 16 = some (.invokestatic 55, 3) := by unfold zzOp; rw [zm_20]; decide +kernel
theorem zo_20_19 : zzOp 20 19 = some (.aload_n 0, 1) := by unfold zzOp; rw [zm_20]; decide +kernel
theorem zo_20_20 : zzOp 20 20 = some (.getfield 48, 3) := by unfold zzOp; rw [zm_20]; decide +kernel
theorem zo_20_23 : zzOp 20 23 = some (.iconst 1, 1) := by unfold zzOp; rw [zm_20]; decide +kernel
theorem zo_20_24 : zzOp 20 24 = some (.iload 4, 2) := by unfold zzOp; rw [zm_20]; decide +kernel
theorem zo_20_26 : zzOp 20 26 = some (.iconst 4, 1) := by unfold zzOp; rw [zm_20]; decide +kernel
theorem zo_20_27 : zzOp 20 27 = some (.irem, 1) := by unfold zzOp; rw [zm_20]; decide +kernel
theorem zo_20_28 : zzOp 20 28 = some (.invokestatic 55, 3) := by unfold zzOp; rw [zm_20]; decide +kernel
theorem zo_20_31 : zzOp 20 31 = some (.aload_n 0, 1) := by unfold zzOp; rw [zm_20]; decide +kernel
theorem zo_20_32 : zzOp 20 32 = some (.getfield 48, 3) := by unfold zzOp; rw [zm_20]; decide +kernel
theorem zo_20_35 : zzOp 20 35 = some (.iconst 2, 1) := by unfold zzOp; rw [zm_20]; decide +kernel
theorem zo_20_36 : zzOp 20 36 = some (.iload_n 3, 1) := by unfold zzOp; rw [zm_20]; decide +kernel
theorem zo_20_37 : zzOp 20 37 = some (.invokestatic 55, 3) := by unfold zzOp; rw [zm_20]; decide +kernel
theorem zo_20_40 : zzOp 20 40 = some (.aload_n 0, 1) := by unfold zzOp; rw [zm_20]; decide +kernel
theorem zo_20_41 : zzOp 20 41 = some (.getfield 48, 3) := by unfold zzOp; rw [zm_20]; decide +kernel
theorem zo_20_44 : zzOp 20 44 = some (.iconst 3, 1) := by unfold zzOp; rw [zm_20]; decide +kernel
theorem zo_20_45 : zzOp 20 45 = some (.aload_n 0, 1) := by unfold zzOp; rw [zm_20]; decide +kernel
theorem zo_20_46 : zzOp 20 46 = some (.iload_n 2, 1) := by unfold zzOp; rw [zm_20]; decide +kernel
theorem zo_20_47 : zzOp 20 47 = some (.invokevirtual 93, 3) := by unfold zzOp; rw [zm_20]; decide +kernel
theorem zo_20_50 : zzOp 20 50 = some (.invokestatic 55, 3) := by unfold zzOp; rw [zm_20]; decide +kernel
theorem zo_20_53 : zzOp 20 53 = some (.aload_n 0, 1) := by unfold zzOp; rw [zm_20]; decide +kernel
theorem zo_20_54 : zzOp 20 54 = some (.getfield 48, 3) := by unfold zzOp; rw [zm_20]; decide +kernel
theorem zo_20_57 : zzOp 20 57 = some (.iconst 4, 1) := by unfold zzOp; rw [zm_20]; decide +kernel
theorem zo_20_58 : zzOp 20 58 = some (.aload_n 0, 1) := by unfold zzOp; rw [zm_20]; decide +kernel
theorem zo_20_59 : zzOp 20 59 = some (.iload_n 2, 1) := by unfold zzOp; rw [zm_20]; decide +kernel
theorem zo_20_60 : zzOp 20 60 = some (.invokevirtual 96, 3) := by unfold zzOp; rw [zm_20]; decide +kernel
theorem zo_20_63 : zzOp 20 63 = some (.invokestatic 55, 3) := by unfold zzOp; rw [zm_20]; decide +kernel
theorem zo_20_66 : zzOp 20 66 = some (.aload_n 0, 1) := by unfold zzOp; rw [zm_20]; decide +kernel
theorem zo_20_67 : zzOp 20 67 = some (.getfield 48, 3) := by unfold zzOp; rw [zm_20]; decide +kernel
theorem zo_20_70 : zzOp 20 70 = some (.iconst 5, 1) := by unfold zzOp; rw [zm_20]; decide +kernel
theorem zo_20_71 : zzOp 20 71 = some (.aload_n 0, 1) := by unfold zzOp; rw [zm_20]; decide +kernel
theorem zo_20_72 : zzOp 20 72 = some (.iload_n 2, 1) := by unfold zzOp; rw [zm_20]; decide +kernel
theorem zo_20_73 : zzOp 20 73 = some (.aload_n 0, 1) := by unfold zzOp; rw [zm_20]; decide +kernel
theorem zo_20_74 : zzOp 20 74 = some (.iload_n 2, 1) := by unfold zzOp; rw [zm_20]; decide +kernel
theorem zo_20_75 : zzOp 20 75 = some (.invokevirtual 99, 3) := by unfold zzOp; rw [zm_20]; decide +kernel
theorem zo_20_78 : zzOp 20 78 = some (.invokevirtual 102, 3) := by unfold zzOp; rw [zm_20]; decide +kernel
theorem zo_20_81 : zzOp 20 81 = some (.ifCond .eq 7, 3) := by unfold zzOp; rw [zm_20]; decide +kernel
theorem zo_20_84 : zzOp 20 84 = some (.iconst 1, 1) := by unfold zzOp; rw [zm_20]; decide +kernel
theorem zo_20_85 : zzOp 20 85 = some (.goto 4, 3) := by unfold zzOp; rw [zm_20]; decide +kernel
theorem zo_20_88 : zzOp 20 88 = some (.iconst 0, 1) := by unfold zzOp; rw [zm_20]; decide +kernel
theorem zo_20_89 : zzOp 20 89 = some (.invokestatic 55, 3) := by unfold zzOp; rw [zm_20]; decide +kernel
theorem zo_20_92 : zzOp 20 92 = some (.aload_n 0, 1) := by unfold zzOp; rw [zm_20]; decide +kernel
theorem zo_20_93 : zzOp 20 93 = some (.getfield 9, 3) := by unfold zzOp; rw [zm_20]; decide +kernel
theorem zo_20_96 : zzOp 20 96 = some (.aload_n 0, 1) := by unfold zzOp; rw [zm_20]; decide +kernel
theorem zo_20_97 : zzOp 20 97 = some (.getfield 22, 3) := by unfold zzOp; rw [zm_20]; decide +kernel
theorem zo_20_100 : zzOp 20 100 = some (.iload_n 1, 1) := by unfold zzOp; rw [zm_20]; decide +kernel
theorem zo_20_101 : zzOp 20 101 = some (.aload_n 0, 1) := by unfold zzOp; rw [zm_20]; decide +kernel
theorem zo_20_102 : zzOp 20 102 = some (.getfield 48, 3) := by unfold zzOp; rw [zm_20]; decide +kernel
theorem zo_20_105 : zzOp 20 105 = some (.invokevirtual 106, 3) := by unfold zzOp; rw [zm_20]; decide +kernel
theorem zo_20_108 : zzOp 20 108 = some (.istore 5, 2) := by unfold zzOp; rw [zm_20]; decide +kernel
theorem zo_20_110 : zzOp 20 110 = some (.iload 5, 2) := by unfold zzOp; rw [zm_20]; decide +kernel
theorem zo_20_112 : zzOp 20 112 = some (.iload_n 1, 1) := by unfold zzOp; rw [zm_20]; decide +kernel
theorem zo_20_113 : zzOp 20 113 = some (.iconst 2, 1) := by unfold zzOp; rw [zm_20]; decide +kernel
theorem zo_20_114 : zzOp 20 114 = some (.if_icmp .ne 8, 3) := by unfold zzOp; rw [zm_20]; decide +kernel
theorem zo_20_117 : zzOp 20 117 = some (.bipush (-99), 2) := by unfold zzOp; rw [zm_20]; decide +kernel
theorem zo_20_119 : zzOp 20 119 = some (.goto 4, 3) := by unfold zzOp; rw [zm_20]; decide +kernel
theorem zo_20_122 : zzOp 20 122 = some (.iconst 0, 1) := by unfold zzOp; rw [zm_20]; decide +kernel
theorem zo_20_123 : zzOp 20 123 = some (.bipush 99, 2) := by unfold zzOp; rw [zm_20]; decide +kernel
theorem zo_20_125 : zzOp 20 125 = some (.invokestatic 112, 3) := by unfold zzOp; rw [zm_20]; decide +kernel
theorem zo_20_128 : zzOp 20 128 = some (.ireturn, 1) := by unfold zzOp; rw [zm_20]; decide +kernel
theorem zf_20_9 : zzGet zzFL (zzM 20).2.2.2.2.1 9 = some (0, 0) := by rw [zm_20]; decide +kernel
theorem zf_20_22 : zzGet zzFL (zzM 20).2.2.2.2.1 22 = some (0, 3) := by rw [zm_20]; decide +kernel
theorem zf_20_48 : zzGet zzFL (zzM 20).2.2.2.2.1 48 = some (0, 10) := by rw [zm_20]; decide +kernel
theorem zl_20_55 : zzGet zzML (zzM 20).2.2.2.2.1 55 = some (1, 126) := by rw [zm_20]; decide +kernel
theorem zl_20_63 : zzGet zzML (zzM 20).2.2.2.2.1 63 = some (2, 7) := by rw [zm_20]; decide +kernel
theorem zl_20_93 : zzGet zzML (zzM 20).2.2.2.2.1 93 = some (2, 5) := by rw [zm_20]; decide +kernel
theorem zl_20_96 : zzGet zzML (zzM 20).2.2.2.2.1 96 = some (2, 17) := by rw [zm_20]; decide +kernel
theorem zl_20_99 : zzGet zzML (zzM 20).2.2.2.2.1 99 = some (2, 6) := by rw [zm_20]; decide +kernel
theorem zl_20_102 : zzGet zzML (zzM 20).2.2.2.2.1 102 = some (2, 16) := by rw [zm_20]; decide +kernel
theorem zl_20_106 : zzGet zzML (zzM 20).2.2.2.2.1 106 = some (2, 79) := by rw [zm_20]; decide +kernel
theorem zl_20_112 : zzGet zzML (zzM 20).2.2.2.2.1 112 = some (1, 135) := by rw [zm_20]; decide +kernel
theorem zm_21 : zzM 21 = (yX0_noise, cX0_noise, 4, (some .int), 0, 2, 1, zzc_21) := rfl
theorem zr_21 : (zzM 21).2.2.2.1 = (some .int) := by rw [zm_21]
theorem zo_21_0 : zzOp 21 0 = some (.aload_n 0, 1) := by unfold zzOp; rw [zm_21]; decide +kernel
theorem zo_21_1 : zzOp 21 1 = some (.iload_n 1, 1) := by unfold zzOp; rw [zm_21]; decide +kernel
theorem zo_21_2 : zzOp 21 2 = some (.invokevirtual 77, 3) := by unfold zzOp; rw [zm_21]; decide +kernel
theorem zo_21_5 : zzOp 21 5 = some (.ifCond .ne 5, 3) := by unfold zzOp; rw [zm_21]; decide +kernel
theorem zo_21_8 : zzOp 21 8 = some (.iconst 0, 1) := by unfold zzOp; rw [zm_21]; decide +kernel
theorem zo_21_9 : zzOp 21 9 = some (.ireturn, 1) := by unfold zzOp; rw [zm_21]; decide +kernel
theorem zo_21_10 : zzOp 21 10 = some (.aload_n 0, 1) := by unfold zzOp; rw [zm_21]; decide +kernel
theorem zo_21_11 : zzOp 21 11 = some (.iconst 0, 1) := by unfold zzOp; rw [zm_21]; decide +kernel
theorem zo_21_12 : zzOp 21 12 = some (.iload_n 1, 1) := by unfold zzOp; rw [zm_21]; decide +kernel
theorem zo_21_13 : zzOp 21 13 = some (.aload_n 0, 1) := by unfold zzOp; rw [zm_21]; decide +kernel
theorem zo_21_14 : zzOp 21 14 = some (.getfield 15, 3) := by unfold zzOp; rw [zm_21]; decide +kernel
theorem zo_21_17 : zzOp 21 17 = some (.invokevirtual 116, 3) := by unfold zzOp; rw [zm_21]; decide +kernel
theorem zo_21_20 : zzOp 21 20 = some (.istore_n 2, 1) := by unfold zzOp; rw [zm_21]; decide +kernel
theorem zo_21_21 : zzOp 21 21 = some (.aload_n 0, 1) := by unfold zzOp; rw [zm_21]; decide +kernel
theorem zo_21_22 : zzOp 21 22 = some (.iload_n 1, 1) := by unfold zzOp; rw [zm_21]; decide +kernel
theorem zo_21_23 : zzOp 21 23 = some (.invokevirtual 63, 3) := by unfold zzOp; rw [zm_21]; decide +kernel
theorem zo_21_26 : zzOp 21 26 = some (.iconst 4, 1) := by unfold zzOp; rw [zm_21]; decide +kernel
theorem zo_21_27 : zzOp 21 27 = some (.idiv, 1) := by unfold zzOp; rw [zm_21]; decide +kernel
theorem zo_21_28 : zzOp 21 28 = some (.istore_n 3, 1) := by unfold zzOp; rw [zm_21]; decide +kernel
theorem zo_21_29 : zzOp 21 29 = some (.aload_n 0, 1) := by unfold zzOp; rw [zm_21]; decide +kernel
theorem zo_21_30 : zzOp 21 30 = some (.iload_n 1, 1) := by unfold zzOp; rw [zm_21]; decide +kernel
theorem zo_21_31 : zzOp 21 31 = some (.invokevirtual 119, 3) := by unfold zzOp; rw [zm_21]; decide +kernel
theorem zo_21_34 : zzOp 21 34 = some (.iload_n 2, 1) := by unfold zzOp; rw [zm_21]; decide +kernel
theorem zo_21_35 : zzOp 21 35 = some (.iload_n 3, 1) := by unfold zzOp; rw [zm_21]; decide +kernel
theorem zo_21_36 : zzOp 21 36 = some (.aload_n 0, 1) := by unfold zzOp; rw [zm_21]; decide +kernel
theorem zo_21_37 : zzOp 21 37 = some (.iload_n 1, 1) := by unfold zzOp; rw [zm_21]; decide +kernel
theorem zo_21_38 : zzOp 21 38 = some (.invokevirtual 93, 3) := by unfold zzOp; rw [zm_21]; decide +kernel
theorem zo_21_41 : zzOp 21 41 = some (.aload_n 0, 1) := by unfold zzOp; rw [zm_21]; decide +kernel
theorem zo_21_42 : zzOp 21 42 = some (.iload_n 1, 1) := by unfold zzOp; rw [zm_21]; decide +kernel
theorem zo_21_43 : zzOp 21 43 = some (.invokevirtual 122, 3) := by unfold zzOp; rw [zm_21]; decide +kernel
theorem zo_21_46 : zzOp 21 46 = some (.invokestatic 125, 3) := by unfold zzOp; rw [zm_21]; decide +kernel
theorem zo_21_49 : zzOp 21 49 = some (.iconst 0, 1) := by unfold zzOp; rw [zm_21]; decide +kernel
theorem zo_21_50 : zzOp 21 50 = some (.sipush 999, 3) := by unfold zzOp; rw [zm_21]; decide +kernel
theorem zo_21_53 : zzOp 21 53 = some (.invokestatic 112, 3) := by unfold zzOp; rw [zm_21]; decide +kernel
theorem zo_21_56 : zzOp 21 56 = some (.ireturn, 1) := by unfold zzOp; rw [zm_21]; decide +kernel
theorem zf_21_15 : zzGet zzFL (zzM 21).2.2.2.2.1 15 = some (0, 1) := by rw [zm_21]; decide +kernel
theorem zl_21_63 : zzGet zzML (zzM 21).2.2.2.2.1 63 = some (2, 7) := by rw [zm_21]; decide +kernel
theorem zl_21_77 : zzGet zzML (zzM 21).2.2.2.2.1 77 = some (2, 8) := by rw [zm_21]; decide +kernel
theorem zl_21_93 : zzGet zzML (zzM 21).2.2.2.2.1 93 = some (2, 5) := by rw [zm_21]; decide +kernel
theorem zl_21_112 : zzGet zzML (zzM 21).2.2.2.2.1 112 = some (1, 135) := by rw [zm_21]; decide +kernel
theorem zl_21_116 : zzGet zzML (zzM 21).2.2.2.2.1 116 = some (2, 20) := by rw [zm_21]; decide +kernel
theorem zl_21_119 : zzGet zzML (zzM 21).2.2.2.2.1 119 = some (2, 4) := by rw [zm_21]; decide +kernel
theorem zl_21_122 : zzGet zzML (zzM 21).2.2.2.2.1 122 = some (2, 18) := by rw [zm_21]; decide +kernel
theorem zl_21_125 : zzGet zzML (zzM 21).2.2.2.2.1 125 = some (1, 132) := by rw [zm_21]; decide +kernel
theorem zm_22 : zzM 22 = (yX0_queasy, cX0_queasy, 4, (some .int), 0, 3, 1, zzc_22) := rfl
theorem zr_22 : (zzM 22).2.2.2.1 = (some .int) := by rw [zm_22]
theorem zo_22_0 : zzOp 22 0 = some (.aload_n 0, 1) := by unfold zzOp; rw [zm_22]; decide +kernel
theorem zo_22_1 : zzOp 22 1 = some (.iload_n 1, 1) := by unfold zzOp; rw [zm_22]; decide +kernel
theorem zo_22_2 : zzOp 22 2 = some (.invokevirtual 77, 3) := by unfold zzOp; rw [zm_22]; decide +kernel
theorem zo_22_5 : zzOp 22 5 = some (.ifCond .ne 5, 3) := by unfold zzOp; rw [zm_22]; decide +kernel
theorem zo_22_8 : zzOp 22 8 = some (.iconst 0, 1) := by unfold zzOp; rw [zm_22]; decide +kernel
theorem zo_22_9 : zzOp 22 9 = some (.ireturn, 1) := by unfold zzOp; rw [zm_22]; decide +kernel
theorem zo_22_10 : zzOp 22 10 = some (.aload_n 0, 1) := by unfold zzOp; rw [zm_22]; decide +kernel
theorem zo_22_11 : zzOp 22 11 = some (.iconst 1, 1) := by unfold zzOp; rw [zm_22]; decide +kernel
theorem zo_22_12 : zzOp 22 12 = some (.iload_n 1, 1) := by unfold zzOp; rw [zm_22]; decide +kernel
theorem zo_22_13 : zzOp 22 13 = some (.iload_n 2, 1) := by unfold zzOp; rw [zm_22]; decide +kernel
theorem zo_22_14 : zzOp 22 14 = some (.invokevirtual 116, 3) := by unfold zzOp; rw [zm_22]; decide +kernel
theorem zo_22_17 : zzOp 22 17 = some (.istore_n 3, 1) := by unfold zzOp; rw [zm_22]; decide +kernel
theorem zo_22_18 : zzOp 22 18 = some (.aload_n 0, 1) := by unfold zzOp; rw [zm_22]; decide +kernel
theorem zo_22_19 : zzOp 22 19 = some (.iload_n 1, 1) := by unfold zzOp; rw [zm_22]; decide +kernel
theorem zo_22_20 : zzOp 22 20 = some (.invokevirtual 119, 3) := by unfold zzOp; rw [zm_22]; decide +kernel
theorem zo_22_23 : zzOp 22 23 = some (.iload_n 3, 1) := by unfold zzOp; rw [zm_22]; decide +kernel
theorem zo_22_24 : zzOp 22 24 = some (.aload_n 0, 1) := by unfold zzOp; rw [zm_22]; decide +kernel
theorem zo_22_25 : zzOp 22 25 = some (.iload_n 1, 1) := by unfold zzOp; rw [zm_22]; decide +kernel
theorem zo_22_26 : zzOp 22 26 = some (.invokevirtual 63, 3) := by unfold zzOp; rw [zm_22]; decide +kernel
theorem zo_22_29 : zzOp 22 29 = some (.iconst 4, 1) := by unfold zzOp; rw [zm_22]; decide +kernel
theorem zo_22_30 : zzOp 22 30 = some (.idiv, 1) := by unfold zzOp; rw [zm_22]; decide +kernel
theorem zo_22_31 : zzOp 22 31 = some (.invokestatic 129, 3) := by unfold zzOp; rw [zm_22]; decide +kernel
theorem zo_22_34 : zzOp 22 34 = some (.iconst 0, 1) := by unfold zzOp; rw [zm_22]; decide +kernel
theorem zo_22_35 : zzOp 22 35 = some (.bipush 99, 2) := by unfold zzOp; rw [zm_22]; decide +kernel
theorem zo_22_37 : zzOp 22 37 = some (.invokestatic 112, 3) := by unfold zzOp; rw [zm_22]; decide +kernel
theorem zo_22_40 : zzOp 22 40 = some (.ireturn, 1) := by unfold zzOp; rw [zm_22]; decide +kernel
theorem zl_22_63 : zzGet zzML (zzM 22).2.2.2.2.1 63 = some (2, 7) := by rw [zm_22]; decide +kernel
theorem zl_22_77 : zzGet zzML (zzM 22).2.2.2.2.1 77 = some (2, 8) := by rw [zm_22]; decide +kernel
theorem zl_22_112 : zzGet zzML (zzM 22).2.2.2.2.1 112 = some (1, 135) := by rw [zm_22]; decide +kernel
theorem zl_22_116 : zzGet zzML (zzM 22).2.2.2.2.1 116 = some (2, 20) := by rw [zm_22]; decide +kernel
theorem zl_22_119 : zzGet zzML (zzM 22).2.2.2.2.1 119 = some (2, 4) := by rw [zm_22]; decide +kernel
theorem zl_22_129 : zzGet zzML (zzM 22).2.2.2.2.1 129 = some (1, 133) := by rw [zm_22]; decide +kernel
theorem zm_23 : zzM 23 = (yX0_glad, cX0_glad, 3, (some .int), 0, 2, 1, zzc_23) := rfl
theorem zr_23 : (zzM 23).2.2.2.1 = (some .int) := by rw [zm_23]
theorem zo_23_0 : zzOp 23 0 = some (.aload_n 0, 1) := by unfold zzOp; rw [zm_23]; decide +kernel
theorem zo_23_1 : zzOp 23 1 = some (.iload_n 1, 1) := by unfold zzOp; rw [zm_23]; decide +kernel
theorem zo_23_2 : zzOp 23 2 = some (.invokevirtual 77, 3) := by unfold zzOp; rw [zm_23]; decide +kernel
theorem zo_23_5 : zzOp 23 5 = some (.ifCond .ne 5, 3) := by unfold zzOp; rw [zm_23]; decide +kernel
theorem zo_23_8 : zzOp 23 8 = some (.iconst 0, 1) := by unfold zzOp; rw [zm_23]; decide +kernel
theorem zo_23_9 : zzOp 23 9 = some (.ireturn, 1) := by unfold zzOp; rw [zm_23]; decide +kernel
theorem zo_23_10 : zzOp 23 10 = some (.aload_n 0, 1) := by unfold zzOp; rw [zm_23]; decide +kernel
theorem zo_23_11 : zzOp 23 11 = some (.iconst 2, 1) := by unfold zzOp; rw [zm_23]; decide +kernel
theorem zo_23_12 : zzOp 23 12 = some (.iload_n 1, 1) := by unfold zzOp; rw [zm_23]; decide +kernel
theorem zo_23_13 : zzOp 23 13 = some (.aload_n 0, 1) := by unfold zzOp; rw [zm_23]; decide +kernel
theorem zo_23_14 : zzOp 23 14 = some (.getfield 15, 3) := by unfold zzOp; rw [zm_23]; decide +kernel
theorem zo_23_17 : zzOp 23 17 = some (.invokevirtual 116, 3) := by unfold zzOp; rw [zm_23]; decide +kernel
theorem zo_23_20 : zzOp 23 20 = some (.istore_n 2, 1) := by unfold zzOp; rw [zm_23]; decide +kernel
theorem zo_23_21 : zzOp 23 21 = some (.aload_n 0, 1) := by unfold zzOp; rw [zm_23]; decide +kernel
theorem zo_23_22 : zzOp 23 22 = some (.iload_n 1, 1) := by unfold zzOp; rw [zm_23]; decide +kernel
theorem zo_23_23 : zzOp 23 23 = some (.invokevirtual 119, 3) := by unfold zzOp; rw [zm_23]; decide +kernel
theorem zo_23_26 : zzOp 23 26 = some (.iload_n 2, 1) := by unfold zzOp; rw [zm_23]; decide +kernel
theorem zo_23_27 : zzOp 23 27 = some (.aload_n 0, 1) := by unfold zzOp; rw [zm_23]; decide +kernel
theorem zo_23_28 : zzOp 23 28 = some (.iload_n 1, 1) := by unfold zzOp; rw [zm_23]; decide +kernel
theorem zo_23_29 : zzOp 23 29 = some (.invokevirtual 63, 3) := by unfold zzOp; rw [zm_23]; decide +kernel
theorem zo_23_32 : zzOp 23 32 = some (.iconst 4, 1) := by unfold zzOp; rw [zm_23]; decide +kernel
theorem zo_23_33 : zzOp 23 33 = some (.idiv, 1) := by unfold zzOp; rw [zm_23]; decide +kernel
theorem zo_23_34 : zzOp 23 34 = some (.aload_n 0, 1) := by unfold zzOp; rw [zm_23]; decide +kernel
theorem zo_23_35 : zzOp 23 35 = some (.iload_n 1, 1) := by unfold zzOp; rw [zm_23]; decide +kernel
theorem zo_23_36 : zzOp 23 36 = some (.aload_n 0, 1) := by unfold zzOp; rw [zm_23]; decide +kernel
theorem zo_23_37 : zzOp 23 37 = some (.iload_n 1, 1) := by unfold zzOp; rw [zm_23]; decide +kernel
theorem zo_23_38 : zzOp 23 38 = some (.invokevirtual 99, 3) := by unfold zzOp; rw [zm_23]; decide +kernel
theorem zo_23_41 : zzOp 23 41 = some (.invokevirtual 102, 3) := by unfold zzOp; rw [zm_23]; decide +kernel
theorem zo_23_44 : zzOp 23 44 = some (.invokestatic 132, 3) := by unfold zzOp; rw [zm_23]; decide +kernel
theorem zo_23_47 : zzOp 23 47 = some (.ireturn, 1) := by unfold zzOp; rw [zm_23]; decide +kernel
theorem zf_23_15 : zzGet zzFL (zzM 23).2.2.2.2.1 15 = some (0, 1) := by rw [zm_23]; decide +kernel
theorem zl_23_63 : zzGet zzML (zzM 23).2.2.2.2.1 63 = some (2, 7) := by rw [zm_23]; decide +kernel
theorem zl_23_77 : zzGet zzML (zzM 23).2.2.2.2.1 77 = some (2, 8) := by rw [zm_23]; decide +kernel
theorem zl_23_99 : zzGet zzML (zzM 23).2.2.2.2.1 99 = some (2, 6) := by rw [zm_23]; decide +kernel
theorem zl_23_102 : zzGet zzML (zzM 23).2.2.2.2.1 102 = some (2, 16) := by rw [zm_23]; decide +kernel
theorem zl_23_116 : zzGet zzML (zzM 23).2.2.2.2.1 116 = some (2, 20) := by rw [zm_23]; decide +kernel
theorem zl_23_119 : zzGet zzML (zzM 23).2.2.2.2.1 119 = some (2, 4) := by rw [zm_23]; decide +kernel
theorem zl_23_132 : zzGet zzML (zzM 23).2.2.2.2.1 132 = some (1, 134) := by rw [zm_23]; decide +kernel
theorem zm_24 : zzM 24 = (yX0_din, cX0_din, 3, (some .int), 0, 1, 1, zzc_24) := rfl
theorem zr_24 : (zzM 24).2.2.2.1 = (some .int) := by rw [zm_24]
theorem zo_24_0 : zzOp 24 0 = some (.iconst 0, 1) := by unfold zzOp; rw [zm_24]; decide +kernel
theorem zo_24_1 : zzOp 24 1 = some (.istore_n 1, 1) := by unfold zzOp; rw [zm_24]; decide +kernel
theorem zo_24_2 : zzOp 24 2 = some (.iconst 0, 1) := by unfold zzOp; rw [zm_24]; decide +kernel
theorem zo_24_3 : zzOp 24 3 = some (.istore_n 2, 1) := by unfold zzOp; rw [zm_24]; decide +kernel
theorem zo_24_4 : zzOp 24 4 = some (.iload_n 2, 1) := by unfold zzOp; rw [zm_24]; decide +kernel
theorem zo_24_5 : zzOp 24 5 = some (.aload_n 0, 1) := by unfold zzOp; rw [zm_24]; decide +kernel
theorem zo_24_6 : zzOp 24 6 = some (.getfield 25, 3) := by unfold zzOp; rw [zm_24]; decide +kernel
theorem zo_24_9 : zzOp 24 9 = some (.if_icmp .ge 17, 3) := by unfold zzOp; rw [zm_24]; decide +kernel
theorem zo_24_12 : zzOp 24 12 = some (.iload_n 1, 1) := by unfold zzOp; rw [zm_24]; decide +kernel
theorem zo_24_13 : zzOp 24 13 = some (.aload_n 0, 1) := by unfold zzOp; rw [zm_24]; decide +kernel
theorem zo_24_14 : zzOp 24 14 = some (.iload_n 2, 1) := by unfold zzOp; rw [zm_24]; decide +kernel
theorem zo_24_15 : zzOp 24 15 = some (.invokevirtual 136, 3) := by unfold zzOp; rw [zm_24]; decide +kernel
theorem zo_24_18 : zzOp 24 18 = some (.iadd, 1) := by unfold zzOp; rw [zm_24]; decide +kernel
theorem zo_24_19 : zzOp 24 19 = some (.istore_n 1, 1) := by unfold zzOp; rw [zm_24]; decide +kernel
theorem zo_24_20 : zzOp 24 20 = some (.iinc 2 1, 3) := by unfold zzOp; rw [zm_24]; decide +kernel
theorem zo_24_23 : zzOp 24 23 = some (.goto (-19), 3) := by unfold zzOp; rw [zm_24]; decide +kernel
theorem zo_24_26 : zzOp 24 26 = some (.iload_n 1, 1) := by unfold zzOp; rw [zm_24]; decide +kernel
theorem zo_24_27 : zzOp 24 27 = some (.ireturn, 1) := by unfold zzOp; rw [zm_24]; decide +kernel
theorem zf_24_25 : zzGet zzFL (zzM 24).2.2.2.2.1 25 = some (0, 4) := by rw [zm_24]; decide +kernel
theorem zl_24_136 : zzGet zzML (zzM 24).2.2.2.2.1 136 = some (2, 21) := by rw [zm_24]; decide +kernel
theorem zm_25 : zzM 25 = (yX0_joy, cX0_joy, 3, (some .int), 0, 1, 1, zzc_25) := rfl
theorem zr_25 : (zzM 25).2.2.2.1 = (some .int) := by rw [zm_25]
theorem zo_25_0 : zzOp 25 0 = some (.iconst 0, 1) := by unfold zzOp; rw [zm_25]; decide +kernel
theorem zo_25_1 : zzOp 25 1 = some (.istore_n 1, 1) := by unfold zzOp; rw [zm_25]; decide +kernel
theorem zo_25_2 : zzOp 25 2 = some (.iconst 0, 1) := by unfold zzOp; rw [zm_25]; decide +kernel
theorem zo_25_3 : zzOp 25 3 = some (.istore_n 2, 1) := by unfold zzOp; rw [zm_25]; decide +kernel
theorem zo_25_4 : zzOp 25 4 = some (.iload_n 2, 1) := by unfold zzOp; rw [zm_25]; decide +kernel
theorem zo_25_5 : zzOp 25 5 = some (.aload_n 0, 1) := by unfold zzOp; rw [zm_25]; decide +kernel
theorem zo_25_6 : zzOp 25 6 = some (.getfield 25, 3) := by unfold zzOp; rw [zm_25]; decide +kernel
theorem zo_25_9 : zzOp 25 9 = some (.if_icmp .ge 17, 3) := by unfold zzOp; rw [zm_25]; decide +kernel
theorem zo_25_12 : zzOp 25 12 = some (.iload_n 1, 1) := by unfold zzOp; rw [zm_25]; decide +kernel
theorem zo_25_13 : zzOp 25 13 = some (.aload_n 0, 1) := by unfold zzOp; rw [zm_25]; decide +kernel
theorem zo_25_14 : zzOp 25 14 = some (.iload_n 2, 1) := by unfold zzOp; rw [zm_25]; decide +kernel
theorem zo_25_15 : zzOp 25 15 = some (.invokevirtual 139, 3) := by unfold zzOp; rw [zm_25]; decide +kernel
theorem zo_25_18 : zzOp 25 18 = some (.iadd, 1) := by unfold zzOp; rw [zm_25]; decide +kernel
theorem zo_25_19 : zzOp 25 19 = some (.istore_n 1, 1) := by unfold zzOp; rw [zm_25]; decide +kernel
theorem zo_25_20 : zzOp 25 20 = some (.iinc 2 1, 3) := by unfold zzOp; rw [zm_25]; decide +kernel
theorem zo_25_23 : zzOp 25 23 = some (.goto (-19), 3) := by unfold zzOp; rw [zm_25]; decide +kernel
theorem zo_25_26 : zzOp 25 26 = some (.iload_n 1, 1) := by unfold zzOp; rw [zm_25]; decide +kernel
theorem zo_25_27 : zzOp 25 27 = some (.ireturn, 1) := by unfold zzOp; rw [zm_25]; decide +kernel
theorem zf_25_25 : zzGet zzFL (zzM 25).2.2.2.2.1 25 = some (0, 4) := by rw [zm_25]; decide +kernel
theorem zl_25_139 : zzGet zzML (zzM 25).2.2.2.2.1 139 = some (2, 23) := by rw [zm_25]; decide +kernel
theorem zm_26 : zzM 26 = (yX0_sitting, cX0_sitting, 3, (some .int), 0, 1, 1, zzc_26) := rfl
theorem zr_26 : (zzM 26).2.2.2.1 = (some .int) := by rw [zm_26]
theorem zo_26_0 : zzOp 26 0 = some (.iconst 0, 1) := by unfold zzOp; rw [zm_26]; decide +kernel
theorem zo_26_1 : zzOp 26 1 = some (.istore_n 1, 1) := by unfold zzOp; rw [zm_26]; decide +kernel
theorem zo_26_2 : zzOp 26 2 = some (.iconst 0, 1) := by unfold zzOp; rw [zm_26]; decide +kernel
theorem zo_26_3 : zzOp 26 3 = some (.istore_n 2, 1) := by unfold zzOp; rw [zm_26]; decide +kernel
theorem zo_26_4 : zzOp 26 4 = some (.iload_n 2, 1) := by unfold zzOp; rw [zm_26]; decide +kernel
theorem zo_26_5 : zzOp 26 5 = some (.aload_n 0, 1) := by unfold zzOp; rw [zm_26]; decide +kernel
theorem zo_26_6 : zzOp 26 6 = some (.getfield 25, 3) := by unfold zzOp; rw [zm_26]; decide +kernel
theorem zo_26_9 : zzOp 26 9 = some (.if_icmp .ge 25, 3) := by unfold zzOp; rw [zm_26]; decide +kernel
theorem zo_26_12 : zzOp 26 12 = some (.iload_n 1, 1) := by unfold zzOp; rw [zm_26]; decide +kernel
theorem zo_26_13 : zzOp 26 13 = some (.aload_n 0, 1) := by unfold zzOp; rw [zm_26]; decide +kernel
theorem zo_26_14 : zzOp 26 14 = some (.iload_n 2, 1) := by unfold zzOp; rw [zm_26]; decide +kernel
theorem zo_26_15 : zzOp 26 15 = some (.invokevirtual 77, 3) := by unfold zzOp; rw [zm_26]; decide +kernel
theorem zo_26_18 : zzOp 26 18 = some (.ifCond .eq 7, 3) := by unfold zzOp; rw [zm_26]; decide +kernel
theorem zo_26_21 : zzOp 26 21 = some (.iconst 1, 1) := by unfold zzOp; rw [zm_26]; decide +kernel
theorem zo_26_22 : zzOp 26 22 = some (.goto 4, 3) := by unfold zzOp; rw [zm_26]; decide +kernel
theorem zo_26_25 : zzOp 26 25 = some (.iconst 0, 1) := by unfold zzOp; rw [zm_26]; decide +kernel
theorem zo_26_26 : zzOp 26 26 = some (.iadd, 1) := by unfold zzOp; rw [zm_26]; decide +kernel
theorem zo_26_27 : zzOp 26 27 = some (.istore_n 1, 1) := by unfold zzOp; rw [zm_26]; decide +kernel
theorem zo_26_28 : zzOp 26 28 = some (.iinc 2 1, 3) := by unfold zzOp; rw [zm_26]; decide +kernel
theorem zo_26_31 : zzOp 26 31 = some (.goto (-27), 3) := by unfold zzOp; rw [zm_26]; decide +kernel
theorem zo_26_34 : zzOp 26 34 = some (.iload_n 1, 1) := by unfold zzOp; rw [zm_26]; decide +kernel
theorem zo_26_35 : zzOp 26 35 = some (.ireturn, 1) := by unfold zzOp; rw [zm_26]; decide +kernel
theorem zf_26_25 : zzGet zzFL (zzM 26).2.2.2.2.1 25 = some (0, 4) := by rw [zm_26]; decide +kernel
theorem zl_26_77 : zzGet zzML (zzM 26).2.2.2.2.1 77 = some (2, 8) := by rw [zm_26]; decide +kernel
theorem zm_27 : zzM 27 = (yX0_alone, cX0_alone, 3, (some .int), 0, 1, 1, zzc_27) := rfl
theorem zr_27 : (zzM 27).2.2.2.1 = (some .int) := by rw [zm_27]
theorem zo_27_0 : zzOp 27 0 = some (.iconst 0, 1) := by unfold zzOp; rw [zm_27]; decide +kernel
theorem zo_27_1 : zzOp 27 1 = some (.istore_n 1, 1) := by unfold zzOp; rw [zm_27]; decide +kernel
theorem zo_27_2 : zzOp 27 2 = some (.iconst 0, 1) := by unfold zzOp; rw [zm_27]; decide +kernel
theorem zo_27_3 : zzOp 27 3 = some (.istore_n 2, 1) := by unfold zzOp; rw [zm_27]; decide +kernel
theorem zo_27_4 : zzOp 27 4 = some (.iload_n 2, 1) := by unfold zzOp; rw [zm_27]; decide +kernel
theorem zo_27_5 : zzOp 27 5 = some (.aload_n 0, 1) := by unfold zzOp; rw [zm_27]; decide +kernel
theorem zo_27_6 : zzOp 27 6 = some (.getfield 25, 3) := by unfold zzOp; rw [zm_27]; decide +kernel
theorem zo_27_9 : zzOp 27 9 = some (.if_icmp .ge 33, 3) := by unfold zzOp; rw [zm_27]; decide +kernel
theorem zo_27_12 : zzOp 27 12 = some (.iload_n 1, 1) := by unfold zzOp; rw [zm_27]; decide +kernel
theorem zo_27_13 : zzOp 27 13 = some (.aload_n 0, 1) := by unfold zzOp; rw [zm_27]; decide +kernel
theorem zo_27_14 : zzOp 27 14 = some (.iload_n 2, 1) := by unfold zzOp; rw [zm_27]; decide +kernel
theorem zo_27_15 : zzOp 27 15 = some (.invokevirtual 77, 3) := by unfold zzOp; rw [zm_27]; decide +kernel
theorem zo_27_18 : zzOp 27 18 = some (.ifCond .eq 15, 3) := by unfold zzOp; rw [zm_27]; decide +kernel
theorem zo_27_21 : zzOp 27 21 = some (.aload_n 0, 1) := by unfold zzOp; rw [zm_27]; decide +kernel
theorem zo_27_22 : zzOp 27 22 = some (.iload_n 2, 1) := by unfold zzOp; rw [zm_27]; decide +kernel
theorem zo_27_23 : zzOp 27 23 = some (.invokevirtual 96, 3) := by unfold zzOp; rw [zm_27]; decide +kernel
theorem zo_27_26 : zzOp 27 26 = some (.ifCond .ne 7, 3) := by unfold zzOp; rw [zm_27]; decide +kernel
theorem zo_27_29 : zzOp 27 29 = some (.iconst 1, 1) := by unfold zzOp; rw [zm_27]; decide +kernel
theorem zo_27_30 : zzOp 27 30 = some (.goto 4, 3) := by unfold zzOp; rw [zm_27]; decide +kernel
theorem zo_27_33 : zzOp 27 33 = some (.iconst 0, 1) := by unfold zzOp; rw [zm_27]; decide +kernel
theorem zo_27_34 : zzOp 27 34 = some (.iadd, 1) := by unfold zzOp; rw [zm_27]; decide +kernel
theorem zo_27_35 : zzOp 27 35 = some (.istore_n 1, 1) := by unfold zzOp; rw [zm_27]; decide +kernel
theorem zo_27_36 : zzOp 27 36 = some (.iinc 2 1, 3) := by unfold zzOp; rw [zm_27]; decide +kernel
theorem zo_27_39 : zzOp 27 39 = some (.goto (-35), 3) := by unfold zzOp; rw [zm_27]; decide +kernel
theorem zo_27_42 : zzOp 27 42 = some (.iload_n 1, 1) := by unfold zzOp; rw [zm_27]; decide +kernel
theorem zo_27_43 : zzOp 27 43 = some (.ireturn, 1) := by unfold zzOp; rw [zm_27]; decide +kernel
theorem zf_27_25 : zzGet zzFL (zzM 27).2.2.2.2.1 25 = some (0, 4) := by rw [zm_27]; decide +kernel
theorem zl_27_77 : zzGet zzML (zzM 27).2.2.2.2.1 77 = some (2, 8) := by rw [zm_27]; decide +kernel
theorem zl_27_96 : zzGet zzML (zzM 27).2.2.2.2.1 96 = some (2, 17) := by rw [zm_27]; decide +kernel
theorem zm_28 : zzM 28 = (yX0_otherwise, cX0_otherwise, 4, (some .int), 0, 2, 1, zzc_28) := rfl
theorem zr_28 : (zzM 28).2.2.2.1 = (some .int) := by rw [zm_28]
theorem zo_28_0 : zzOp 28 0 = some (.iconst 0, 1) := by unfold zzOp; rw [zm_28]; decide +kernel
theorem zo_28_1 : zzOp 28 1 = some (.istore_n 2, 1) := by unfold zzOp; rw [zm_28]; decide +kernel
theorem zo_28_2 : zzOp 28 2 = some (.iconst 0, 1) := by unfold zzOp; rw [zm_28]; decide +kernel
theorem zo_28_3 : zzOp 28 3 = some (.istore_n 3, 1) := by unfold zzOp; rw [zm_28]; decide +kernel
theorem zo_28_4 : zzOp 28 4 = some (.iload_n 3, 1) := by unfold zzOp; rw [zm_28]; decide +kernel
theorem zo_28_5 : zzOp 28 5 = some (.aload_n 0, 1) := by unfold zzOp; rw [zm_28]; decide +kernel
theorem zo_28_6 : zzOp 28 6 = some (.getfield 25, 3) := by unfold zzOp; rw [zm_28]; decide +kernel
theorem zo_28_9 : zzOp 28 9 = some (.if_icmp .ge 28, 3) := by unfold zzOp; rw [zm_28]; decide +kernel
theorem zo_28_12 : zzOp 28 12 = some (.aload_n 0, 1) := by unfold zzOp; rw [zm_28]; decide +kernel
theorem zo_28_13 : zzOp 28 13 = some (.iload_n 3, 1) := by unfold zzOp; rw [zm_28]; decide +kernel
theorem zo_28_14 : zzOp 28 14 = some (.invokevirtual 136, 3) := by unfold zzOp; rw [zm_28]; decide +kernel
theorem zo_28_17 : zzOp 28 17 = some (.aload_n 1, 1) := by unfold zzOp; rw [zm_28]; decide +kernel
theorem zo_28_18 : zzOp 28 18 = some (.iload_n 3, 1) := by unfold zzOp; rw [zm_28]; decide +kernel
theorem zo_28_19 : zzOp 28 19 = some (.invokevirtual 142, 3) := by unfold zzOp; rw [zm_28]; decide +kernel
theorem zo_28_22 : zzOp 28 22 = some (.if_icmp .eq 9, 3) := by unfold zzOp; rw [zm_28]; decide +kernel
theorem zo_28_25 : zzOp 28 25 = some (.iload_n 2, 1) := by unfold zzOp; rw [zm_28]; decide +kernel
theorem zo_28_26 : zzOp 28 26 = some (.iconst 1, 1) := by unfold zzOp; rw [zm_28]; decide +kernel
theorem zo_28_27 : zzOp 28 27 = some (.iload_n 3, 1) := by unfold zzOp; rw [zm_28]; decide +kernel
theorem zo_28_28 : zzOp 28 28 = some (.ishl, 1) := by unfold zzOp; rw [zm_28]; decide +kernel
theorem zo_28_29 : zzOp 28 29 = some (.ior, 1) := by unfold zzOp; rw [zm_28]; decide +kernel
theorem zo_28_30 : zzOp 28 30 = some (.istore_n 2, 1) := by unfold zzOp; rw [zm_28]; decide +kernel
theorem zo_28_31 : zzOp 28 31 = some (.iinc 3 1, 3) := by unfold zzOp; rw [zm_28]; decide +kernel
theorem zo_28_34 : zzOp 28 34 = some (.goto (-30), 3) := by unfold zzOp; rw [zm_28]; decide +kernel
theorem zo_28_37 : zzOp 28 37 = some (.iload_n 2, 1) := by unfold zzOp; rw [zm_28]; decide +kernel
theorem zo_28_38 : zzOp 28 38 = some (.ireturn, 1) := by unfold zzOp; rw [zm_28]; decide +kernel
theorem zf_28_25 : zzGet zzFL (zzM 28).2.2.2.2.1 25 = some (0, 4) := by rw [zm_28]; decide +kernel
theorem zl_28_136 : zzGet zzML (zzM 28).2.2.2.2.1 136 = some (2, 21) := by rw [zm_28]; decide +kernel
theorem zl_28_142 : zzGet zzML (zzM 28).2.2.2.2.1 142 = some (2, 72) := by rw [zm_28]; decide +kernel
theorem zm_30 : zzM 30 = (yX1_takes, cX1_takes, 4, (some .boolean), 1, 3, 1, zzc_30) := rfl
theorem zr_30 : (zzM 30).2.2.2.1 = (some .boolean) := by rw [zm_30]
theorem zo_30_0 : zzOp 30 0 = some (.aload_n 1, 1) := by unfold zzOp; rw [zm_30]; decide +kernel
theorem zo_30_1 : zzOp 30 1 = some (.invokevirtual 21, 3) := by unfold zzOp; rw [zm_30]; decide +kernel
theorem zo_30_4 : zzOp 30 4 = some (.ifCond .ne 12, 3) := by unfold zzOp; rw [zm_30]; decide +kernel
theorem zo_30_7 : zzOp 30 7 = some (.aload_n 1, 1) := by unfold zzOp; rw [zm_30]; decide +kernel
theorem zo_30_8 : zzOp 30 8 = some (.getfield 27, 3) := by unfold zzOp; rw [zm_30]; decide +kernel
theorem zo_30_11 : zzOp 30 11 = some (.iconst 2, 1) := by unfold zzOp; rw [zm_30]; decide +kernel
theorem zo_30_12 : zzOp 30 12 = some (.irem, 1) := by unfold zzOp; rw [zm_30]; decide +kernel
theorem zo_30_13 : zzOp 30 13 = some (.ifCond .eq 5, 3) := by unfold zzOp; rw [zm_30]; decide +kernel
theorem zo_30_16 : zzOp 30 16 = some (.iconst 0, 1) := by unfold zzOp; rw [zm_30]; decide +kernel
theorem zo_30_17 : zzOp 30 17 = some (.ireturn, 1) := by unfold zzOp; rw [zm_30]; decide +kernel
theorem zo_30_18 : zzOp 30 18 = some (.aload_n 0, 1) := by unfold zzOp; rw [zm_30]; decide +kernel
theorem zo_30_19 : zzOp 30 19 = some (.aload_n 1, 1) := by unfold zzOp; rw [zm_30]; decide +kernel
theorem zo_30_20 : zzOp 30 20 = some (.getfield 27, 3) := by unfold zzOp; rw [zm_30]; decide +kernel
theorem zo_30_23 : zzOp 30 23 = some (.iconst 2, 1) := by unfold zzOp; rw [zm_30]; decide +kernel
theorem zo_30_24 : zzOp 30 24 = some (.idiv, 1) := by unfold zzOp; rw [zm_30]; decide +kernel
theorem zo_30_25 : zzOp 30 25 = some (.putfield 31, 3) := by unfold zzOp; rw [zm_30]; decide +kernel
theorem zo_30_28 : zzOp 30 28 = some (.aload_n 0, 1) := by unfold zzOp; rw [zm_30]; decide +kernel
theorem zo_30_29 : zzOp 30 29 = some (.getfield 31, 3) := by unfold zzOp; rw [zm_30]; decide +kernel
theorem zo_30_32 : zzOp 30 32 = some (.iconst 1, 1) := by unfold zzOp; rw [zm_30]; decide +kernel
theorem zo_30_33 : zzOp 30 33 = some (.if_icmp .lt 12, 3) := by unfold zzOp; rw [zm_30]; decide +kernel
theorem zo_30_36 : zzOp 30 36 = some (.aload_n 0, 1) := by unfold zzOp; rw [zm_30]; decide +kernel
theorem zo_30_37 : zzOp 30 37 = some (.getfield 31, 3) := by unfold zzOp; rw [zm_30]; decide +kernel
theorem zo_30_40 : zzOp 30 40 = some (.bipush 6, 2) := by unfold zzOp; rw [zm_30]; decide +kernel
theorem zo_30_42 : zzOp 30 42 = some (.if_icmp .le 5, 3) := by unfold zzOp; rw [zm_30]; decide +kernel
theorem zo_30_45 : zzOp 30 45 = some (.iconst 0, 1) := by unfold zzOp; rw [zm_30]; decide +kernel
theorem zo_30_46 : zzOp 30 46 = some (.ireturn, 1) := by unfold zzOp; rw [zm_30]; decide +kernel
theorem zo_30_47 : zzOp 30 47 = some (.iconst 0, 1) := by unfold zzOp; rw [zm_30]; decide +kernel
theorem zo_30_48 : zzOp 30 48 = some (.istore_n 3, 1) := by unfold zzOp; rw [zm_30]; decide +kernel
theorem zo_30_49 : zzOp 30 49 = some (.iload_n 3, 1) := by unfold zzOp; rw [zm_30]; decide +kernel
theorem zo_30_50 : zzOp 30 50 = some (.aload_n 0, 1) := by unfold zzOp; rw [zm_30]; decide +kernel
theorem zo_30_51 : zzOp 30 51 = some (.getfield 31, 3) := by unfold zzOp; rw [zm_30]; decide +kernel
theorem zo_30_54 : zzOp 30 54 = some (.if_icmp .ge 40, 3) := by unfold zzOp; rw [zm_30]; decide +kernel
theorem zo_30_57 : zzOp 30 57 = some (.aload_n 0, 1) := by unfold zzOp; rw [zm_30]; decide +kernel
theorem zo_30_58 : zzOp 30 58 = some (.getfield 9, 3) := by unfold zzOp; rw [zm_30]; decide +kernel
theorem zo_30_61 : zzOp 30 61 = some (.iload_n 3, 1) := by unfold zzOp; rw [zm_30]; decide +kernel
theorem zo_30_62 : zzOp 30 62 = some (.aload_n 1, 1) := by unfold zzOp; rw [zm_30]; decide +kernel
theorem zo_30_63 : zzOp 30 63 = some (.iload_n 3, 1) := by unfold zzOp; rw [zm_30]; decide +kernel
theorem zo_30_64 : zzOp 30 64 = some (.invokevirtual 32, 3) := by unfold zzOp; rw [zm_30]; decide +kernel
theorem zo_30_67 : zzOp 30 67 = some (.invokestatic 36, 3) := by unfold zzOp; rw [zm_30]; decide +kernel
theorem zo_30_70 : zzOp 30 70 = some (.aload_n 0, 1) := by unfold zzOp; rw [zm_30]; decide +kernel
theorem zo_30_71 : zzOp 30 71 = some (.getfield 15, 3) := by unfold zzOp; rw [zm_30]; decide +kernel
theorem zo_30_74 : zzOp 30 74 = some (.iload_n 3, 1) := by unfold zzOp; rw [zm_30]; decide +kernel
theorem zo_30_75 : zzOp 30 75 = some (.aload_n 1, 1) := by unfold zzOp; rw [zm_30]; decide +kernel
theorem zo_30_76 : zzOp 30 76 = some (.aload_n 0, 1) := by unfold zzOp; rw [zm_30]; decide +kernel
theorem zo_30_77 : zzOp 30 77 = some (.getfield 31, 3) := by unfold zzOp; rw [zm_30]; decide +kernel
theorem zo_30_80 : zzOp 30 80 = some (.iload_n 3, 1) := by unfold zzOp; rw [zm_30]; decide +kernel
theorem zo_30_81 : zzOp 30 81 = some (.iadd, 1) := by unfold zzOp; rw [zm_30]; decide +kernel
theorem zo_30_82 : zzOp 30 82 = some (.invokevirtual 32, 3) := by unfold zzOp; rw [zm_30]; decide +kernel
theorem zo_30_85 : zzOp 30 85 = some (.invokestatic 36, 3) := by unfold zzOp; rw [zm_30]; decide +kernel
theorem zo_30_88 : zzOp 30 88 = some (.iinc 3 1, 3) := by unfold zzOp; rw [zm_30]; decide +kernel
theorem zo_30_91 : zzOp 30 91 = some (.goto (-42), 3) := by unfold zzOp; rw [zm_30]; decide +kernel
theorem zo_30_94 : zzOp 30 94 = some (.aload_n 0, 1) := by unfold zzOp; rw [zm_30]; decide +kernel
theorem zo_30_95 : zzOp 30 95 = some (.aload_n 0, 1) := by unfold zzOp; rw [zm_30]; decide +kernel
theorem zo_30_96 : zzOp 30 96 = some (.getfield 9, 3) := by unfold zzOp; rw [zm_30]; decide +kernel
theorem zo_30_99 : zzOp 30 99 = some (.invokevirtual 40, 3) := by unfold zzOp; rw [zm_30]; decide +kernel
theorem zo_30_102 : zzOp 30 102 = some (.ifCond .eq 26, 3) := by unfold zzOp; rw [zm_30]; decide +kernel
theorem zo_30_105 : zzOp 30 105 = some (.aload_n 0, 1) := by unfold zzOp; rw [zm_30]; decide +kernel
theorem zo_30_106 : zzOp 30 106 = some (.aload_n 0, 1) := by unfold zzOp; rw [zm_30]; decide +kernel
theorem zo_30_107 : zzOp 30 107 = some (.getfield 15, 3) := by unfold zzOp; rw [zm_30]; decide +kernel
theorem zo_30_110 : zzOp 30 110 = some (.invokevirtual 40, 3) := by unfold zzOp; rw [zm_30]; decide +kernel
theorem zo_30_113 : zzOp 30 113 = some (.ifCond .eq 15, 3) := by unfold zzOp; rw [zm_30]; decide +kernel
theorem zo_30_116 : zzOp 30 116 = some (.aload_n 0, 1) := by unfold zzOp; rw [zm_30]; decide +kernel
theorem zo_30_117 : zzOp 30 117 = some (.aload_n 2, 1) := by unfold zzOp; rw [zm_30]; decide +kernel
theorem zo_30_118 : zzOp 30 118 = some (.invokevirtual 44, 3) := by unfold zzOp; rw [zm_30]; decide +kernel
theorem zo_30_121 : zzOp 30 121 = some (.ifCond .eq 7, 3) := by unfold zzOp; rw [zm_30]; decide +kernel
theorem zo_30_124 : zzOp 30 124 = some (.iconst 1, 1) := by unfold zzOp; rw [zm_30]; decide +kernel
theorem zo_30_125 : zzOp 30 125 = some (.goto 4, 3) := by unfold zzOp; rw [zm_30]; decide +kernel
theorem zo_30_128 : zzOp 30 128 = some (.iconst 0, 1) := by unfold zzOp; rw [zm_30]; decide +kernel
theorem zo_30_129 : zzOp 30 129 = some (.ireturn, 1) := by unfold zzOp; rw [zm_30]; decide +kernel
theorem zf_30_9 : zzGet zzFL (zzM 30).2.2.2.2.1 9 = some (1, 0) := by rw [zm_30]; decide +kernel
theorem zf_30_15 : zzGet zzFL (zzM 30).2.2.2.2.1 15 = some (1, 1) := by rw [zm_30]; decide +kernel
theorem zf_30_27 : zzGet zzFL (zzM 30).2.2.2.2.1 27 = some (4, 1) := by rw [zm_30]; decide +kernel
theorem zf_30_31 : zzGet zzFL (zzM 30).2.2.2.2.1 31 = some (1, 3) := by rw [zm_30]; decide +kernel
theorem zl_30_21 : zzGet zzML (zzM 30).2.2.2.2.1 21 = some (2, 69) := by rw [zm_30]; decide +kernel
theorem zl_30_32 : zzGet zzML (zzM 30).2.2.2.2.1 32 = some (2, 72) := by rw [zm_30]; decide +kernel
theorem zl_30_36 : zzGet zzML (zzM 30).2.2.2.2.1 36 = some (1, 126) := by rw [zm_30]; decide +kernel
theorem zl_30_40 : zzGet zzML (zzM 30).2.2.2.2.1 40 = some (2, 31) := by rw [zm_30]; decide +kernel
theorem zl_30_44 : zzGet zzML (zzM 30).2.2.2.2.1 44 = some (2, 32) := by rw [zm_30]; decide +kernel
theorem zm_31 : zzM 31 = (yX1_isUnlike, cX1_isUnlike, 4, (some .boolean), 1, 2, 1, zzc_31) := rfl
theorem zr_31 : (zzM 31).2.2.2.1 = (some .boolean) := by rw [zm_31]
theorem zo_31_0 : zzOp 31 0 = some (.iconst 0, 1) := by unfold zzOp; rw [zm_31]; decide +kernel
theorem zo_31_1 : zzOp 31 1 = some (.istore_n 2, 1) := by unfold zzOp; rw [zm_31]; decide +kernel
theorem zo_31_2 : zzOp 31 2 = some (.iload_n 2, 1) := by unfold zzOp; rw [zm_31]; decide +kernel
theorem zo_31_3 : zzOp 31 3 = some (.aload_n 0, 1) := by unfold zzOp; rw [zm_31]; decide +kernel
theorem zo_31_4 : zzOp 31 4 = some (.getfield 31, 3) := by unfold zzOp; rw [zm_31]; decide +kernel
theorem zo_31_7 : zzOp 31 7 = some (.if_icmp .ge 37, 3) := by unfold zzOp; rw [zm_31]; decide +kernel
theorem zo_31_10 : zzOp 31 10 = some (.iconst 0, 1) := by unfold zzOp; rw [zm_31]; decide +kernel
theorem zo_31_11 : zzOp 31 11 = some (.istore_n 3, 1) := by unfold zzOp; rw [zm_31]; decide +kernel
theorem zo_31_12 : zzOp 31 12 = some (.iload_n 3, 1) := by unfold zzOp; rw [zm_31]; decide +kernel
theorem zo_31_13 : zzOp 31 13 = some (.iload_n 2, 1) := by unfold zzOp; rw [zm_31]; decide +kernel
theorem zo_31_14 : zzOp 31 14 = some (.if_icmp .ge 24, 3) := by unfold zzOp; rw [zm_31]; decide +kernel
theorem zo_31_17 : zzOp 31 17 = some (.aload_n 1, 1) := by unfold zzOp; rw [zm_31]; decide +kernel
theorem zo_31_18 : zzOp 31 18 = some (.iload_n 2, 1) := by unfold zzOp; rw [zm_31]; decide +kernel
theorem zo_31_19 : zzOp 31 19 = some (.invokestatic 48, 3) := by unfold zzOp; rw [zm_31]; decide +kernel
theorem zo_31_22 : zzOp 31 22 = some (.aload_n 1, 1) := by unfold zzOp; rw [zm_31]; decide +kernel
theorem zo_31_23 : zzOp 31 23 = some (.iload_n 3, 1) := by unfold zzOp; rw [zm_31]; decide +kernel
theorem zo_31_24 : zzOp 31 24 = some (.invokestatic 48, 3) := by unfold zzOp; rw [zm_31]; decide +kernel
theorem zo_31_27 : zzOp 31 27 = some (.if_icmp .ne 5, 3) := by unfold zzOp; rw [zm_31]; decide +kernel
theorem zo_31_30 : zzOp 31 30 = some (.iconst 0, 1) := by unfold zzOp; rw [zm_31]; decide +kernel
theorem zo_31_31 : zzOp 31 31 = some (.ireturn, 1) := by unfold zzOp; rw [zm_31]; decide +kernel
theorem zo_31_32 : zzOp 31 32 = some (.iinc 3 1, 3) := by unfold zzOp; rw [zm_31]; decide +kernel
theorem zo_31_35 : zzOp 31 35 = some (.goto (-23), 3) := by unfold zzOp; rw [zm_31]; decide +kernel
theorem zo_31_38 : zzOp 31 38 = some (.iinc 2 1, 3) := by unfold zzOp; rw [zm_31]; decide +kernel
theorem zo_31_41 : zzOp 31 41 = some (.goto (-39), 3) := by unfold zzOp; rw [zm_31]; decide +kernel
theorem zo_31_44 : zzOp 31 44 = some (.iconst 1, 1) := by unfold zzOp; rw [zm_31]; decide +kernel
theorem zo_31_45 : zzOp 31 45 = some (.ireturn, 1) := by unfold zzOp; rw [zm_31]; decide +kernel
theorem zf_31_31 : zzGet zzFL (zzM 31).2.2.2.2.1 31 = some (1, 3) := by rw [zm_31]; decide +kernel
theorem zl_31_48 : zzGet zzML (zzM 31).2.2.2.2.1 48 = some (1, 125) := by rw [zm_31]; decide +kernel
theorem zm_32 : zzM 32 = (yX1_isAllThere, cX1_isAllThere, 5, (some .boolean), 1, 2, 1, zzc_32) := rfl
theorem zr_32 : (zzM 32).2.2.2.1 = (some .boolean) := by rw [zm_32]
theorem zo_32_0 : zzOp 32 0 = some (.iconst 0, 1) := by unfold zzOp; rw [zm_32]; decide +kernel
theorem zo_32_1 : zzOp 32 1 = some (.istore_n 2, 1) := by unfold zzOp; rw [zm_32]; decide +kernel
theorem zo_32_2 : zzOp 32 2 = some (.iload_n 2, 1) := by unfold zzOp; rw [zm_32]; decide +kernel
theorem zo_32_3 : zzOp 32 3 = some (.aload_n 0, 1) := by unfold zzOp; rw [zm_32]; decide +kernel
theorem zo_32_4 : zzOp 32 4 = some (.getfield 31, 3) := by unfold zzOp; rw [zm_32]; decide +kernel
theorem zo_32_7 : zzOp 32 7 = some (.if_icmp .ge 69, 3) := by unfold zzOp; rw [zm_32]; decide +kernel
theorem zo_32_10 : zzOp 32 10 = some (.aload_n 0, 1) := by unfold zzOp; rw [zm_32]; decide +kernel
theorem zo_32_11 : zzOp 32 11 = some (.getfield 15, 3) := by unfold zzOp; rw [zm_32]; decide +kernel
theorem zo_32_14 : zzOp 32 14 = some (.iload_n 2, 1) := by unfold zzOp; rw [zm_32]; decide +kernel
theorem zo_32_15 : zzOp 32 15 = some (.invokestatic 48, 3) := by unfold zzOp; rw [zm_32]; decide +kernel
theorem zo_32_18 : zzOp 32 18 = some (.istore_n 3, 1) := by unfold zzOp; rw [zm_32]; decide +kernel
theorem zo_32_19 : zzOp 32 19 = some (.aload_n 1, 1) := by unfold zzOp; rw [zm_32]; decide +kernel
theorem zo_32_20 : zzOp 32 20 = some (.aload_n 0, 1) := by unfold zzOp; rw [zm_32]; decide +kernel
theorem zo_32_21 : zzOp 32 21 = some (.getfield 9, 3) := by unfold zzOp; rw [zm_32]; decide +kernel
theorem zo_32_24 : zzOp 32 24 = some (.iload_n 2, 1) := by unfold zzOp; rw [zm_32]; decide +kernel
theorem zo_32_25 : zzOp 32 25 = some (.invokestatic 48, 3) := by unfold zzOp; rw [zm_32]; decide +kernel
theorem zo_32_28 : zzOp 32 28 = some (.invokevirtual 52, 3) := by unfold zzOp; rw [zm_32]; decide +kernel
theorem zo_32_31 : zzOp 32 31 = some (.ifCond .eq 13, 3) := by unfold zzOp; rw [zm_32]; decide +kernel
theorem zo_32_34 : zzOp 32 34 = some (.iload_n 3, 1) := by unfold zzOp; rw [zm_32]; decide +kernel
theorem zo_32_35 : zzOp 32 35 = some (.ifCond .lt 9, 3) := by unfold zzOp; rw [zm_32]; decide +kernel
theorem zo_32_38 : zzOp 32 38 = some (.iload_n 3, 1) := by unfold zzOp; rw [zm_32]; decide +kernel
theorem zo_32_39 : zzOp 32 39 = some (.bipush 24, 2) := by unfold zzOp; rw [zm_32]; decide +kernel
theorem zo_32_41 : zzOp 32 41 = some (.if_icmp .lt 5, 3) := by unfold zzOp; rw [zm_32]; decide +kernel
theorem zo_32_44 : zzOp 32 44 = some (.iconst 0, 1) := by unfold zzOp; rw [zm_32]; decide +kernel
theorem zo_32_45 : zzOp 32 45 = some (.ireturn, 1) := by unfold zzOp; rw [zm_32]; decide +kernel
theorem zo_32_46 : zzOp 32 46 = some (.aload_n 1, 1) := by unfold zzOp; rw [zm_32]; decide +kernel
theorem zo_32_47 : zzOp 32 47 = some (.iload_n 3, 1) := by unfold zzOp; rw [zm_32]; decide +kernel
theorem zo_32_48 : zzOp 32 48 = some (.invokevirtual 58, 3) := by unfold zzOp; rw [zm_32]; decide +kernel
theorem zo_32_51 : zzOp 32 51 = some (.istore 4, 2) := by unfold zzOp; rw [zm_32]; decide +kernel
theorem zo_32_53 : zzOp 32 53 = some (.iload 4, 2) := by unfold zzOp; rw [zm_32]; decide +kernel
theorem zo_32_55 : zzOp 32 55 = some (.iconst (-1), 1) := by unfold zzOp; rw [zm_32]; decide +kernel
theorem zo_32_56 : zzOp 32 56 = some (.if_icmp .eq 14, 3) := by unfold zzOp; rw [zm_32]; decide +kernel
theorem zo_32_59 : zzOp 32 59 = some (.aload_n 0, 1) := by unfold zzOp; rw [zm_32]; decide +kernel
theorem zo_32_60 : zzOp 32 60 = some (.iload 4, 2) := by unfold zzOp; rw [zm_32]; decide +kernel
theorem zo_32_62 : zzOp 32 62 = some (.invokevirtual 61, 3) := by unfold zzOp; rw [zm_32]; decide +kernel
theorem zo_32_65 : zzOp 32 65 = some (.ifCond .ne 5, 3) := by unfold zzOp; rw [zm_32]; decide +kernel
theorem zo_32_68 : zzOp 32 68 = some (.iconst 0, 1) := by unfold zzOp; rw [zm_32]; decide +kernel
theorem zo_32_69 : zzOp 32 69 = some (.ireturn, 1) := by unfold zzOp; rw [zm_32]; decide +kernel
theorem zo_32_70 : zzOp 32 70 = some (.iinc 2 1, 3) := by unfold zzOp; rw [zm_32]; decide +kernel
theorem zo_32_73 : zzOp 32 73 = some (.goto (-71), 3) := by unfold zzOp; rw [zm_32]; decide +kernel
theorem zo_32_76 : zzOp 32 76 = some (.iconst 1, 1) := by unfold zzOp; rw [zm_32]; decide +kernel
theorem zo_32_77 : zzOp 32 77 = some (.ireturn, 1) := by unfold zzOp; rw [zm_32]; decide +kernel
theorem zf_32_9 : zzGet zzFL (zzM 32).2.2.2.2.1 9 = some (1, 0) := by rw [zm_32]; decide +kernel
theorem zf_32_15 : zzGet zzFL (zzM 32).2.2.2.2.1 15 = some (1, 1) := by rw [zm_32]; decide +kernel
theorem zf_32_31 : zzGet zzFL (zzM 32).2.2.2.2.1 31 = some (1, 3) := by rw [zm_32]; decide +kernel
theorem zl_32_48 : zzGet zzML (zzM 32).2.2.2.2.1 48 = some (1, 125) := by rw [zm_32]; decide +kernel
theorem zl_32_52 : zzGet zzML (zzM 32).2.2.2.2.1 52 = some (2, 2) := by rw [zm_32]; decide +kernel
theorem zl_32_58 : zzGet zzML (zzM 32).2.2.2.2.1 58 = some (2, 9) := by rw [zm_32]; decide +kernel
theorem zl_32_61 : zzGet zzML (zzM 32).2.2.2.2.1 61 = some (2, 33) := by rw [zm_32]; decide +kernel
theorem zm_33 : zzM 33 = (yX1_isTold, cX1_isTold, 3, (some .boolean), 1, 2, 1, zzc_33) := rfl
theorem zr_33 : (zzM 33).2.2.2.1 = (some .boolean) := by rw [zm_33]
theorem zo_33_0 : zzOp 33 0 = some (.iconst 0, 1) := by unfold zzOp; rw [zm_33]; decide +kernel
theorem zo_33_1 : zzOp 33 1 = some (.istore_n 2, 1) := by unfold zzOp; rw [zm_33]; decide +kernel
theorem zo_33_2 : zzOp 33 2 = some (.iload_n 2, 1) := by unfold zzOp; rw [zm_33]; decide +kernel
theorem zo_33_3 : zzOp 33 3 = some (.aload_n 0, 1) := by unfold zzOp; rw [zm_33]; decide +kernel
theorem zo_33_4 : zzOp 33 4 = some (.getfield 31, 3) := by unfold zzOp; rw [zm_33]; decide +kernel
theorem zo_33_7 : zzOp 33 7 = some (.if_icmp .ge 23, 3) := by unfold zzOp; rw [zm_33]; decide +kernel
theorem zo_33_10 : zzOp 33 10 = some (.aload_n 0, 1) := by unfold zzOp; rw [zm_33]; decide +kernel
theorem zo_33_11 : zzOp 33 11 = some (.getfield 9, 3) := by unfold zzOp; rw [zm_33]; decide +kernel
theorem zo_33_14 : zzOp 33 14 = some (.iload_n 2, 1) := by unfold zzOp; rw [zm_33]; decide +kernel
theorem zo_33_15 : zzOp 33 15 = some (.invokestatic 48, 3) := by unfold zzOp; rw [zm_33]; decide +kernel
theorem zo_33_18 : zzOp 33 18 = some (.iload_n 1, 1) := by unfold zzOp; rw [zm_33]; decide +kernel
theorem zo_33_19 : zzOp 33 19 = some (.if_icmp .ne 5, 3) := by unfold zzOp; rw [zm_33]; decide +kernel
theorem zo_33_22 : zzOp 33 22 = some (.iconst 1, 1) := by unfold zzOp; rw [zm_33]; decide +kernel
theorem zo_33_23 : zzOp 33 23 = some (.ireturn, 1) := by unfold zzOp; rw [zm_33]; decide +kernel
theorem zo_33_24 : zzOp 33 24 = some (.iinc 2 1, 3) := by unfold zzOp; rw [zm_33]; decide +kernel
theorem zo_33_27 : zzOp 33 27 = some (.goto (-25), 3) := by unfold zzOp; rw [zm_33]; decide +kernel
theorem zo_33_30 : zzOp 33 30 = some (.iconst 0, 1) := by unfold zzOp; rw [zm_33]; decide +kernel
theorem zo_33_31 : zzOp 33 31 = some (.ireturn, 1) := by unfold zzOp; rw [zm_33]; decide +kernel
theorem zf_33_9 : zzGet zzFL (zzM 33).2.2.2.2.1 9 = some (1, 0) := by rw [zm_33]; decide +kernel
theorem zf_33_31 : zzGet zzFL (zzM 33).2.2.2.2.1 31 = some (1, 3) := by rw [zm_33]; decide +kernel
theorem zl_33_48 : zzGet zzML (zzM 33).2.2.2.2.1 48 = some (1, 125) := by rw [zm_33]; decide +kernel
theorem zm_34 : zzM 34 = (yX1_seek, cX1_seek, 5, none, 1, 2, 1, zzc_34) := rfl
theorem zr_34 : (zzM 34).2.2.2.1 = none := by rw [zm_34]
theorem zo_34_0 : zzOp 34 0 = some (.iconst 0, 1) := by unfold zzOp; rw [zm_34]; decide +kernel
theorem zo_34_1 : zzOp 34 1 = some (.istore_n 2, 1) := by unfold zzOp; rw [zm_34]; decide +kernel
theorem zo_34_2 : zzOp 34 2 = some (.iload_n 2, 1) := by unfold zzOp; rw [zm_34]; decide +kernel
theorem zo_34_3 : zzOp 34 3 = some (.aload_n 0, 1) := by unfold zzOp; rw [zm_34]; decide +kernel
theorem zo_34_4 : zzOp 34 4 = some (.getfield 31, 3) := by unfold zzOp; rw [zm_34]; decide +kernel
theorem zo_34_7 : zzOp 34 7 = some (.if_icmp .ge 18, 3) := by unfold zzOp; rw [zm_34]; decide +kernel
theorem zo_34_10 : zzOp 34 10 = some (.aload_n 0, 1) := by unfold zzOp; rw [zm_34]; decide +kernel
theorem zo_34_11 : zzOp 34 11 = some (.getfield 18, 3) := by unfold zzOp; rw [zm_34]; decide +kernel
theorem zo_34_14 : zzOp 34 14 = some (.iload_n 2, 1) := by unfold zzOp; rw [zm_34]; decide +kernel
theorem zo_34_15 : zzOp 34 15 = some (.iload_n 2, 1) := by unfold zzOp; rw [zm_34]; decide +kernel
theorem zo_34_16 : zzOp 34 16 = some (.invokestatic 36, 3) := by unfold zzOp; rw [zm_34]; decide +kernel
theorem zo_34_19 : zzOp 34 19 = some (.iinc 2 1, 3) := by unfold zzOp; rw [zm_34]; decide +kernel
theorem zo_34_22 : zzOp 34 22 = some (.goto (-20), 3) := by unfold zzOp; rw [zm_34]; decide +kernel
theorem zo_34_25 : zzOp 34 25 = some (.iconst 1, 1) := by unfold zzOp; rw [zm_34]; decide +kernel
theorem zo_34_26 : zzOp 34 26 = some (.istore_n 2, 1) := by unfold zzOp; rw [zm_34]; decide +kernel
theorem zo_34_27 : zzOp 34 27 = some (.iconst 0, 1) := by unfold zzOp; rw [zm_34]; decide +kernel
theorem zo_34_28 : zzOp 34 28 = some (.istore_n 3, 1) := by unfold zzOp; rw [zm_34]; decide +kernel
theorem zo_34_29 : zzOp 34 29 = some (.iload_n 3, 1) := by unfold zzOp; rw [zm_34]; decide +kernel
theorem zo_34_30 : zzOp 34 30 = some (.sipush 720, 3) := by unfold zzOp; rw [zm_34]; decide +kernel
theorem zo_34_33 : zzOp 34 33 = some (.if_icmp .ge 56, 3) := by unfold zzOp; rw [zm_34]; decide +kernel
theorem zo_34_36 : zzOp 34 36 = some (.iload_n 2, 1) := by unfold zzOp; rw [zm_34]; decide +kernel
theorem zo_34_37 : zzOp 34 37 = some (.ifCond .eq 52, 3) := by unfold zzOp; rw [zm_34]; decide +kernel
theorem zo_34_40 : zzOp 34 40 = some (.aload_n 0, 1) := by unfold zzOp; rw [zm_34]; decide +kernel
theorem zo_34_41 : zzOp 34 41 = some (.aload_n 1, 1) := by unfold zzOp; rw [zm_34]; decide +kernel
theorem zo_34_42 : zzOp 34 42 = some (.invokevirtual 64, 3) := by unfold zzOp; rw [zm_34]; decide +kernel
theorem zo_34_45 : zzOp 34 45 = some (.aload_n 1, 1) := by unfold zzOp; rw [zm_34]; decide +kernel
theorem zo_34_46 : zzOp 34 46 = some (.invokevirtual 68, 3) := by unfold zzOp; rw [zm_34]; decide +kernel
theorem zo_34_49 : zzOp 34 49 = some (.istore 4, 2) := by unfold zzOp; rw [zm_34]; decide +kernel
theorem zo_34_51 : zzOp 34 51 = some (.iload_n 3, 1) := by unfold zzOp; rw [zm_34]; decide +kernel
theorem zo_34_52 : zzOp 34 52 = some (.ifCond .eq 12, 3) := by unfold zzOp; rw [zm_34]; decide +kernel
theorem zo_34_55 : zzOp 34 55 = some (.iload 4, 2) := by unfold zzOp; rw [zm_34]; decide +kernel
theorem zo_34_57 : zzOp 34 57 = some (.aload_n 0, 1) := by unfold zzOp; rw [zm_34]; decide +kernel
theorem zo_34_58 : zzOp 34 58 = some (.getfield 72, 3) := by unfold zzOp; rw [zm_34]; decide +kernel
theorem zo_34_61 : zzOp 34 61 = some (.if_icmp .le 17, 3) := by unfold zzOp; rw [zm_34]; decide +kernel
theorem zo_34_64 : zzOp 34 64 = some (.aload_n 0, 1) := by unfold zzOp; rw [zm_34]; decide +kernel
theorem zo_34_65 : zzOp 34 65 = some (.iload 4, 2) := by unfold zzOp; rw [zm_34]; decide +kernel
theorem zo_34_67 : zzOp 34 67 = some (.putfield 72, 3) := by unfold zzOp; rw [zm_34]; decide +kernel
theorem zo_34_70 : zzOp 34 70 = some (.aload_n 0, 1) := by unfold zzOp; rw [zm_34]; decide +kernel
theorem zo_34_71 : zzOp 34 71 = some (.aload_n 0, 1) := by unfold zzOp; rw [zm_34]; decide +kernel
theorem zo_34_72 : zzOp 34 72 = some (.invokevirtual 75, 3) := by unfold zzOp; rw [zm_34]; decide +kernel
theorem zo_34_75 : zzOp 34 75 = some (.putfield 78, 3) := by unfold zzOp; rw [zm_34]; decide +kernel
theorem zo_34_78 : zzOp 34 78 = some (.aload_n 0, 1) := by unfold zzOp; rw [zm_34]; decide +kernel
theorem zo_34_79 : zzOp 34 79 = some (.invokevirtual 81, 3) := by unfold zzOp; rw [zm_34]; decide +kernel
theorem zo_34_82 : zzOp 34 82 = some (.istore_n 2, 1) := by unfold zzOp; rw [zm_34]; decide +kernel
theorem zo_34_83 : zzOp 34 83 = some (.iinc 3 1, 3) := by unfold zzOp; rw [zm_34]; decide +kernel
theorem zo_34_86 : zzOp 34 86 = some (.goto (-57), 3) := by unfold zzOp; rw [zm_34]; decide +kernel
theorem zo_34_89 : zzOp 34 89 = some (.return_, 1) := by unfold zzOp; rw [zm_34]; decide +kernel
theorem zf_34_18 : zzGet zzFL (zzM 34).2.2.2.2.1 18 = some (1, 2) := by rw [zm_34]; decide +kernel
theorem zf_34_31 : zzGet zzFL (zzM 34).2.2.2.2.1 31 = some (1, 3) := by rw [zm_34]; decide +kernel
theorem zf_34_72 : zzGet zzFL (zzM 34).2.2.2.2.1 72 = some (1, 4) := by rw [zm_34]; decide +kernel
theorem zf_34_78 : zzGet zzFL (zzM 34).2.2.2.2.1 78 = some (1, 5) := by rw [zm_34]; decide +kernel
theorem zl_34_36 : zzGet zzML (zzM 34).2.2.2.2.1 36 = some (1, 126) := by rw [zm_34]; decide +kernel
theorem zl_34_64 : zzGet zzML (zzM 34).2.2.2.2.1 64 = some (2, 35) := by rw [zm_34]; decide +kernel
theorem zl_34_68 : zzGet zzML (zzM 34).2.2.2.2.1 68 = some (2, 25) := by rw [zm_34]; decide +kernel
theorem zl_34_75 : zzGet zzML (zzM 34).2.2.2.2.1 75 = some (2, 36) := by rw [zm_34]; decide +kernel
theorem zl_34_81 : zzGet zzML (zzM 34).2.2.2.2.1 81 = some (2, 37) := by rw [zm_34]; decide +kernel
theorem zm_35 : zzM 35 = (yX1_seatAll, cX1_seatAll, 3, none, 1, 2, 1, zzc_35) := rfl
theorem zr_35 : (zzM 35).2.2.2.1 = none := by rw [zm_35]
theorem zo_35_0 : zzOp 35 0 = some (.iconst 0, 1) := by unfold zzOp; rw [zm_35]; decide +kernel
theorem zo_35_1 : zzOp 35 1 = some (.istore_n 2, 1) := by unfold zzOp; rw [zm_35]; decide +kernel
theorem zo_35_2 : zzOp 35 2 = some (.iload_n 2, 1) := by unfold zzOp; rw [zm_35]; decide +kernel
theorem zo_35_3 : zzOp 35 3 = some (.aload_n 0, 1) := by unfold zzOp; rw [zm_35]; decide +kernel
theorem zo_35_4 : zzOp 35 4 = some (.getfield 31, 3) := by unfold zzOp; rw [zm_35]; decide +kernel
theorem zo_35_7 : zzOp 35 7 = some (.if_icmp .ge 22, 3) := by unfold zzOp; rw [zm_35]; decide +kernel
theorem zo_35_10 : zzOp 35 10 = some (.aload_n 1, 1) := by unfold zzOp; rw [zm_35]; decide +kernel
theorem zo_35_11 : zzOp 35 11 = some (.aload_n 0, 1) := by unfold zzOp; rw [zm_35]; decide +kernel
theorem zo_35_12 : zzOp 35 12 = some (.getfield 9, 3) := by unfold zzOp; rw [zm_35]; decide +kernel
theorem zo_35_15 : zzOp 35 15 = some (.iload_n 2, 1) := by unfold zzOp; rw [zm_35]; decide +kernel
theorem zo_35_16 : zzOp 35 16 = some (.invokestatic 48, 3) := by unfold zzOp; rw [zm_35]; decide +kernel
theorem zo_35_19 : zzOp 35 19 = some (.iconst (-1), 1) := by unfold zzOp; rw [zm_35]; decide +kernel
theorem zo_35_20 : zzOp 35 20 = some (.invokevirtual 84, 3) := by unfold zzOp; rw [zm_35]; decide +kernel
theorem zo_35_23 : zzOp 35 23 = some (.iinc 2 1, 3) := by unfold zzOp; rw [zm_35]; decide +kernel
theorem zo_35_26 : zzOp 35 26 = some (.goto (-24), 3) := by unfold zzOp; rw [zm_35]; decide +kernel
theorem zo_35_29 : zzOp 35 29 = some (.iconst 0, 1) := by unfold zzOp; rw [zm_35]; decide +kernel
theorem zo_35_30 : zzOp 35 30 = some (.istore_n 2, 1) := by unfold zzOp; rw [zm_35]; decide +kernel
theorem zo_35_31 : zzOp 35 31 = some (.iload_n 2, 1) := by unfold zzOp; rw [zm_35]; decide +kernel
theorem zo_35_32 : zzOp 35 32 = some (.aload_n 0, 1) := by unfold zzOp; rw [zm_35]; decide +kernel
theorem zo_35_33 : zzOp 35 33 = some (.getfield 31, 3) := by unfold zzOp; rw [zm_35]; decide +kernel
theorem zo_35_36 : zzOp 35 36 = some (.if_icmp .ge 36, 3) := by unfold zzOp; rw [zm_35]; decide +kernel
theorem zo_35_39 : zzOp 35 39 = some (.aload_n 1, 1) := by unfold zzOp; rw [zm_35]; decide +kernel
theorem zo_35_40 : zzOp 35 40 = some (.aload_n 0, 1) := by unfold zzOp; rw [zm_35]; decide +kernel
theorem zo_35_41 : zzOp 35 41 = some (.getfield 9, 3) := by unfold zzOp; rw [zm_35]; decide +kernel
theorem zo_35_44 : zzOp 35 44 = some (.aload_n 0, 1) := by unfold zzOp; rw [zm_35]; decide +kernel
theorem zo_35_45 : zzOp 35 45 = some (.getfield 18, 3) := by unfold zzOp; rw [zm_35]; decide +kernel
theorem zo_35_48 : zzOp 35 48 = some (.iload_n 2, 1) := by unfold zzOp; rw [zm_35]; decide +kernel
theorem zo_35_49 : zzOp 35 49 = some (.invokestatic 48, 3) := by unfold zzOp; rw [zm_35]; decide +kernel
theorem zo_35_52 : zzOp 35 52 = some (.invokestatic 48, 3) := by unfold zzOp; rw [zm_35]; decide +kernel
theorem zo_35_55 : zzOp 35 55 = some (.aload_n 0, 1) := by unfold zzOp; rw [zm_35]; decide +kernel
theorem zo_35_56 : zzOp 35 56 = some (.getfield 15, 3) := by unfold zzOp; rw [zm_35]; decide +kernel
theorem zo_35_59 : zzOp 35 59 = some (.iload_n 2, 1) := by unfold zzOp; rw [zm_35]; decide +kernel
theorem zo_35_60 : zzOp 35 60 = some (.invokestatic 48, 3) := by unfold zzOp; rw [zm_35]; decide +kernel
theorem zo_35_63 : zzOp 35 63 = some (.invokevirtual 84, 3) := by unfold zzOp; rw [zm_35]; decide +kernel
theorem zo_35_66 : zzOp 35 66 = some (.iinc 2 1, 3) := by unfold zzOp; rw [zm_35]; decide +kernel
theorem zo_35_69 : zzOp 35 69 = some (.goto (-38), 3) := by unfold zzOp; rw [zm_35]; decide +kernel
theorem zo_35_72 : zzOp 35 72 = some (.return_, 1) := by unfold zzOp; rw [zm_35]; decide +kernel
theorem zf_35_9 : zzGet zzFL (zzM 35).2.2.2.2.1 9 = some (1, 0) := by rw [zm_35]; decide +kernel
theorem zf_35_15 : zzGet zzFL (zzM 35).2.2.2.2.1 15 = some (1, 1) := by rw [zm_35]; decide +kernel
theorem zf_35_18 : zzGet zzFL (zzM 35).2.2.2.2.1 18 = some (1, 2) := by rw [zm_35]; decide +kernel
theorem zf_35_31 : zzGet zzFL (zzM 35).2.2.2.2.1 31 = some (1, 3) := by rw [zm_35]; decide +kernel
theorem zl_35_48 : zzGet zzML (zzM 35).2.2.2.2.1 48 = some (1, 125) := by rw [zm_35]; decide +kernel
theorem zl_35_84 : zzGet zzML (zzM 35).2.2.2.2.1 84 = some (2, 11) := by rw [zm_35]; decide +kernel
theorem zm_36 : zzM 36 = (yX1_digits, cX1_digits, 3, (some .int), 1, 1, 1, zzc_36) := rfl
theorem zr_36 : (zzM 36).2.2.2.1 = (some .int) := by rw [zm_36]
theorem zo_36_0 : zzOp 36 0 = some (.iconst 0, 1) := by unfold zzOp; rw [zm_36]; decide +kernel
theorem zo_36_1 : zzOp 36 1 = some (.istore_n 1, 1) := by unfold zzOp; rw [zm_36]; decide +kernel
theorem zo_36_2 : zzOp 36 2 = some (.iconst 0, 1) := by unfold zzOp; rw [zm_36]; decide +kernel
theorem zo_36_3 : zzOp 36 3 = some (.istore_n 2, 1) := by unfold zzOp; rw [zm_36]; decide +kernel
theorem zo_36_4 : zzOp 36 4 = some (.iload_n 2, 1) := by unfold zzOp; rw [zm_36]; decide +kernel
theorem zo_36_5 : zzOp 36 5 = some (.aload_n 0, 1) := by unfold zzOp; rw [zm_36]; decide +kernel
theorem zo_36_6 : zzOp 36 6 = some (.getfield 31, 3) := by unfold zzOp; rw [zm_36]; decide +kernel
theorem zo_36_9 : zzOp 36 9 = some (.if_icmp .ge 25, 3) := by unfold zzOp; rw [zm_36]; decide +kernel
theorem zo_36_12 : zzOp 36 12 = some (.iload_n 1, 1) := by unfold zzOp; rw [zm_36]; decide +kernel
theorem zo_36_13 : zzOp 36 13 = some (.bipush 10, 2) := by unfold zzOp; rw [zm_36]; decide +kernel
theorem zo_36_15 : zzOp 36 15 = some (.imul, 1) := by unfold zzOp; rw [zm_36]; decide +kernel
theorem zo_36_16 : zzOp 36 16 = some (.aload_n 0, 1) := by unfold zzOp; rw [zm_36]; decide +kernel
theorem zo_36_17 : zzOp 36 17 = some (.getfield 18, 3) := by unfold zzOp; rw [zm_36]; decide +kernel
theorem zo_36_20 : zzOp 36 20 = some (.iload_n 2, 1) := by unfold zzOp; rw [zm_36]; decide +kernel
theorem zo_36_21 : zzOp 36 21 = some (.invokestatic 48, 3) := by unfold zzOp; rw [zm_36]; decide +kernel
theorem zo_36_24 : zzOp 36 24 = some (.iadd, 1) := by unfold zzOp; rw [zm_36]; decide +kernel
theorem zo_36_25 : zzOp 36 25 = some (.iconst 1, 1) := by unfold zzOp; rw [zm_36]; decide +kernel
theorem zo_36_26 : zzOp 36 26 = some (.iadd, 1) := by unfold zzOp; rw [zm_36]; decide +kernel
theorem zo_36_27 : zzOp 36 27 = some (.istore_n 1, 1) := by unfold zzOp; rw [zm_36]; decide +kernel
theorem zo_36_28 : zzOp 36 28 = some (.iinc 2 1, 3) := by unfold zzOp; rw [zm_36]; decide +kernel
theorem zo_36_31 : zzOp 36 31 = some (.goto (-27), 3) := by unfold zzOp; rw [zm_36]; decide +kernel
theorem zo_36_34 : zzOp 36 34 = some (.iload_n 1, 1) := by unfold zzOp; rw [zm_36]; decide +kernel
theorem zo_36_35 : zzOp 36 35 = some (.ireturn, 1) := by unfold zzOp; rw [zm_36]; decide +kernel
theorem zf_36_18 : zzGet zzFL (zzM 36).2.2.2.2.1 18 = some (1, 2) := by rw [zm_36]; decide +kernel
theorem zf_36_31 : zzGet zzFL (zzM 36).2.2.2.2.1 31 = some (1, 3) := by rw [zm_36]; decide +kernel
theorem zl_36_48 : zzGet zzML (zzM 36).2.2.2.2.1 48 = some (1, 125) := by rw [zm_36]; decide +kernel
theorem zm_37 : zzM 37 = (yX1_nextOrder, cX1_nextOrder, 5, (some .boolean), 1, 1, 1, zzc_37) := rfl
theorem zr_37 : (zzM 37).2.2.2.1 = (some .boolean) := by rw [zm_37]
theorem zo_37_0 : zzOp 37 0 = some (.aload_n 0, 1) := by unfold zzOp; rw [zm_37]; decide +kernel
theorem zo_37_1 : zzOp 37 1 = some (.getfield 31, 3) := by unfold zzOp; rw [zm_37]; decide +kernel
theorem zo_37_4 : zzOp 37 4 = some (.iconst 2, 1) := by unfold zzOp; rw [zm_37]; decide +kernel
theorem zo_37_5 : zzOp 37 5 = some (.isub, 1) := by unfold zzOp; rw [zm_37]; decide +kernel
theorem zo_37_6 : zzOp 37 6 = some (.istore_n 1, 1) := by unfold zzOp; rw [zm_37]; decide +kernel
theorem zo_37_7 : zzOp 37 7 = some (.iload_n 1, 1) := by unfold zzOp; rw [zm_37]; decide +kernel
theorem zo_37_8 : zzOp 37 8 = some (.ifCond .lt 30, 3) := by unfold zzOp; rw [zm_37]; decide +kernel
theorem zo_37_11 : zzOp 37 11 = some (.aload_n 0, 1) := by unfold zzOp; rw [zm_37]; decide +kernel
theorem zo_37_12 : zzOp 37 12 = some (.getfield 18, 3) := by unfold zzOp; rw [zm_37]; decide +kernel
theorem zo_37_15 : zzOp 37 15 = some (.iload_n 1, 1) := by unfold zzOp; rw [zm_37]; decide +kernel
theorem zo_37_16 : zzOp 37 16 = some (.invokestatic 48, 3) := by unfold zzOp; rw [zm_37]; decide +kernel
theorem zo_37_19 : zzOp 37 19 = some (.aload_n 0, 1) := by unfold zzOp; rw [zm_37]; decide +kernel
theorem zo_37_20 : zzOp 37 20 = some (.getfield 18, 3) := by unfold zzOp; rw [zm_37]; decide +kernel
theorem zo_37_23 : zzOp 37 23 = some (.iload_n 1, 1) := by unfold zzOp; rw [zm_37]; decide +kernel
theorem zo_37_24 : zzOp 37 24 = some (.iconst 1, 1) := by unfold zzOp; rw [zm_37]; decide +kernel
theorem zo_37_25 : zzOp 37 25 = some (.iadd, 1) := by unfold zzOp; rw [zm_37]; decide +kernel
theorem zo_37_26 : zzOp 37 26 = some (.invokestatic 48, 3) := by unfold zzOp; rw [zm_37]; decide +kernel
theorem zo_37_29 : zzOp 37 29 = some (.if_icmp .le 9, 3) := by unfold zzOp; rw [zm_37]; decide +kernel
theorem zo_37_32 : zzOp 37 32 = some (.iinc 1 (-1), 3) := by unfold zzOp; rw [zm_37]; decide +kernel
theorem zo_37_35 : zzOp 37 35 = some (.goto (-28), 3) := by unfold zzOp; rw [zm_37]; decide +kernel
theorem zo_37_38 : zzOp 37 38 = some (.iload_n 1, 1) := by unfold zzOp; rw [zm_37]; decide +kernel
theorem zo_37_39 : zzOp 37 39 = some (.ifCond .ge 5, 3) := by unfold zzOp; rw [zm_37]; decide +kernel
theorem zo_37_42 : zzOp 37 42 = some (.iconst 0, 1) := by unfold zzOp; rw [zm_37]; decide +kernel
theorem zo_37_43 : zzOp 37 43 = some (.ireturn, 1) := by unfold zzOp; rw [zm_37]; decide +kernel
theorem zo_37_44 : zzOp 37 44 = some (.aload_n 0, 1) := by unfold zzOp; rw [zm_37]; decide +kernel
theorem zo_37_45 : zzOp 37 45 = some (.getfield 31, 3) := by unfold zzOp; rw [zm_37]; decide +kernel
theorem zo_37_48 : zzOp 37 48 = some (.iconst 1, 1) := by unfold zzOp; rw [zm_37]; decide +kernel
theorem zo_37_49 : zzOp 37 49 = some (.isub, 1) := by unfold zzOp; rw [zm_37]; decide +kernel
theorem zo_37_50 : zzOp 37 50 = some (.istore_n 2, 1) := by unfold zzOp; rw [zm_37]; decide +kernel
theorem zo_37_51 : zzOp 37 51 = some (.iload_n 2, 1) := by unfold zzOp; rw [zm_37]; decide +kernel
theorem zo_37_52 : zzOp 37 52 = some (.iload_n 1, 1) := by unfold zzOp; rw [zm_37]; decide +kernel
theorem zo_37_53 : zzOp 37 53 = some (.if_icmp .le 28, 3) := by unfold zzOp; rw [zm_37]; decide +kernel
theorem zo_37_56 : zzOp 37 56 = some (.aload_n 0, 1) := by unfold zzOp; rw [zm_37]; decide +kernel
theorem zo_37_57 : zzOp 37 57 = some (.getfield 18, 3) := by unfold zzOp; rw [zm_37]; decide +kernel
theorem zo_37_60 : zzOp 37 60 = some (.iload_n 2, 1) := by unfold zzOp; rw [zm_37]; decide +kernel
theorem zo_37_61 : zzOp 37 61 = some (.invokestatic 48, 3) := by unfold zzOp; rw [zm_37]; decide +kernel
theorem zo_37_64 : zzOp 37 64 = some (.aload_n 0, 1) := by unfold zzOp; rw [zm_37]; decide +kernel
theorem zo_37_65 : zzOp 37 65 = some (.getfield 18, 3) := by unfold zzOp; rw [zm_37]; decide +kernel
theorem zo_37_68 : zzOp 37 68 = some (.iload_n 1, 1) := by unfold zzOp; rw [zm_37]; decide +kernel
theorem zo_37_69 : zzOp 37 69 = some (.invokestatic 48, 3) := by unfold zzOp; rw [zm_37]; decide +kernel
theorem zo_37_72 : zzOp 37 72 = some (.if_icmp .ge 9, 3) := by unfold zzOp; rw [zm_37]; decide +kernel
theorem zo_37_75 : zzOp 37 75 = some (.iinc 2 (-1), 3) := by unfold zzOp; rw [zm_37]; decide +kernel
theorem zo_37_78 : zzOp 37 78 = some (.goto (-27), 3) := by unfold zzOp; rw [zm_37]; decide +kernel
theorem zo_37_81 : zzOp 37 81 = some (.aload_n 0, 1) := by unfold zzOp; rw [zm_37]; decide +kernel
theorem zo_37_82 : zzOp 37 82 = some (.iload_n 1, 1) := by unfold zzOp; rw [zm_37]; decide +kernel
theorem zo_37_83 : zzOp 37 83 = some (.iload_n 2, 1) := by unfold zzOp; rw [zm_37]; decide +kernel
theorem zo_37_84 : zzOp 37 84 = some (.invokevirtual 88, 3) := by unfold zzOp; rw [zm_37]; decide +kernel
theorem zo_37_87 : zzOp 37 87 = some (.iload_n 1, 1) := by unfold zzOp; rw [zm_37]; decide +kernel
theorem zo_37_88 : zzOp 37 88 = some (.iconst 1, 1) := by unfold zzOp; rw [zm_37]; decide +kernel
theorem zo_37_89 : zzOp 37 89 = some (.iadd, 1) := by unfold zzOp; rw [zm_37]; decide +kernel
theorem zo_37_90 : zzOp 37 90 = some (.istore_n 3, 1) := by unfold zzOp; rw [zm_37]; decide +kernel
theorem zo_37_91 : zzOp 37 91 = some (.aload_n 0, 1) := by unfold zzOp; rw [zm_37]; decide +kernel
theorem zo_37_92 : zzOp 37 92 = some (.getfield 31, 3) := by unfold zzOp; rw [zm_37]; decide +kernel
theorem zo_37_95 : zzOp 37 95 = some (.iconst 1, 1) := by unfold zzOp; rw [zm_37]; decide +kernel
theorem zo_37_96 : zzOp 37 96 = some (.isub, 1) := by unfold zzOp; rw [zm_37]; decide +kernel
theorem zo_37_97 : zzOp 37 97 = some (.istore 4, 2) := by unfold zzOp; rw [zm_37]; decide +kernel
theorem zo_37_99 : zzOp 37 99 = some (.iload_n 3, 1) := by unfold zzOp; rw [zm_37]; decide +kernel
theorem zo_37_100 : zzOp 37 100 = some (.iload 4, 2) := by unfold zzOp; rw [zm_37]; decide +kernel
theorem zo_37_102 : zzOp 37 102 = some (.if_icmp .ge 19, 3) := by unfold zzOp; rw [zm_37]; decide +kernel
theorem zo_37_105 : zzOp 37 105 = some (.aload_n 0, 1) := by unfold zzOp; rw [zm_37]; decide +kernel
theorem zo_37_106 : zzOp 37 106 = some (.iload_n 3, 1) := by unfold zzOp; rw [zm_37]; decide +kernel
theorem zo_37_107 : zzOp 37 107 = some (.iload 4, 2) := by unfold zzOp; rw [zm_37]; decide +kernel
theorem zo_37_109 : zzOp 37 109 = some (.invokevirtual 88, 3) := by unfold zzOp; rw [zm_37]; decide +kernel
theorem zo_37_112 : zzOp 37 112 = some (.iinc 3 1, 3) := by unfold zzOp; rw [zm_37]; decide +kernel
theorem zo_37_115 : zzOp 37 115 = some (.iinc 4 (-1), 3) := by unfold zzOp; rw [zm_37]; decide +kernel
theorem zo_37_118 : zzOp 37 118 = some (.goto (-19), 3) := by unfold zzOp; rw [zm_37]; decide +kernel
theorem zo_37_121 : zzOp 37 121 = some (.iconst 1, 1) := by unfold zzOp; rw [zm_37]; decide +kernel
theorem zo_37_122 : zzOp 37 122 = some (.ireturn, 1) := by unfold zzOp; rw [zm_37]; decide +kernel
theorem zf_37_18 : zzGet zzFL (zzM 37).2.2.2.2.1 18 = some (1, 2) := by rw [zm_37]; decide +kernel
theorem zf_37_31 : zzGet zzFL (zzM 37).2.2.2.2.1 31 = some (1, 3) := by rw [zm_37]; decide +kernel
theorem zl_37_48 : zzGet zzML (zzM 37).2.2.2.2.1 48 = some (1, 125) := by rw [zm_37]; decide +kernel
theorem zl_37_88 : zzGet zzML (zzM 37).2.2.2.2.1 88 = some (2, 38) := by rw [zm_37]; decide +kernel
theorem zm_38 : zzM 38 = (yX1_swapPlaces, cX1_swapPlaces, 4, none, 1, 3, 1, zzc_38) := rfl
theorem zr_38 : (zzM 38).2.2.2.1 = none := by rw [zm_38]
theorem zo_38_0 : zzOp 38 0 = some (.aload_n 0, 1) := by unfold zzOp; rw [zm_38]; decide +kernel
theorem zo_38_1 : zzOp 38 1 = some (.getfield 18, 3) := by unfold zzOp; rw [zm_38]; decide +kernel
theorem zo_38_4 : zzOp 38 4 = some (.iload_n 1, 1) := by unfold zzOp; rw [zm_38]; decide +kernel
theorem zo_38_5 : zzOp 38 5 = some (.invokestatic 48, 3) := by unfold zzOp; rw [zm_38]; decide +kernel
theorem zo_38_8 : zzOp 38 8 = some (.istore_n 3, 1) := by unfold zzOp; rw [zm_38]; decide +kernel
theorem zo_38_9 : zzOp 38 9 = some (.aload_n 0, 1) := by unfold zzOp; rw [zm_38]; decide +kernel
theorem zo_38_10 : zzOp 38 10 = some (.getfield 18, 3) := by unfold zzOp; rw [zm_38]; decide +kernel
theorem zo_38_13 : zzOp 38 13 = some (.iload_n 1, 1) := by unfold zzOp; rw [zm_38]; decide +kernel
theorem zo_38_14 : zzOp 38 14 = some (.aload_n 0, 1) := by unfold zzOp; rw [zm_38]; decide +kernel
theorem zo_38_15 : zzOp 38 15 = some (.getfield 18, 3) := by unfold zzOp; rw [zm_38]; decide +kernel
theorem zo_38_18 : zzOp 38 18 = some (.iload_n 2, 1) := by unfold zzOp; rw [zm_38]; decide +kernel
theorem zo_38_19 : zzOp 38 19 = some (.invokestatic 48, 3) := by unfold zzOp; rw [zm_38]; decide +kernel
theorem zo_38_22 : zzOp 38 22 = some (.invokestatic 36, 3) := by unfold zzOp; rw [zm_38]; decide +kernel
theorem zo_38_25 : zzOp 38 25 = some (.aload_n 0, 1) := by unfold zzOp; rw [zm_38]; decide +kernel
theorem zo_38_26 : zzOp 38 26 = some (.getfield 18, 3) := by unfold zzOp; rw [zm_38]; decide +kernel
theorem zo_38_29 : zzOp 38 29 = some (.iload_n 2, 1) := by unfold zzOp; rw [zm_38]; decide +kernel
theorem zo_38_30 : zzOp 38 30 = some (.iload_n 3, 1) := by unfold zzOp; rw [zm_38]; decide +kernel
theorem zo_38_31 : zzOp 38 31 = some (.invokestatic 36, 3) := by unfold zzOp; rw [zm_38]; decide +kernel
theorem zo_38_34 : zzOp 38 34 = some (.return_, 1) := by unfold zzOp; rw [zm_38]; decide +kernel
theorem zf_38_18 : zzGet zzFL (zzM 38).2.2.2.2.1 18 = some (1, 2) := by rw [zm_38]; decide +kernel
theorem zl_38_36 : zzGet zzML (zzM 38).2.2.2.2.1 36 = some (1, 126) := by rw [zm_38]; decide +kernel
theorem zl_38_48 : zzGet zzML (zzM 38).2.2.2.2.1 48 = some (1, 125) := by rw [zm_38]; decide +kernel
theorem zm_40 : zzM 40 = (yX2_append, cX2_append, 2, (some .int), 2, 2, 1, zzc_40) := rfl
theorem zr_40 : (zzM 40).2.2.2.1 = (some .int) := by rw [zm_40]
theorem zo_40_0 : zzOp 40 0 = some (.aload_n 0, 1) := by unfold zzOp; rw [zm_40]; decide +kernel
theorem zo_40_1 : zzOp 40 1 = some (.getfield 15, 3) := by unfold zzOp; rw [zm_40]; decide +kernel
theorem zo_40_4 : zzOp 40 4 = some (.aload_n 0, 1) := by unfold zzOp; rw [zm_40]; decide +kernel
theorem zo_40_5 : zzOp 40 5 = some (.getfield 19, 3) := by unfold zzOp; rw [zm_40]; decide +kernel
theorem zo_40_8 : zzOp 40 8 = some (.iload_n 1, 1) := by unfold zzOp; rw [zm_40]; decide +kernel
theorem zo_40_9 : zzOp 40 9 = some (.invokestatic 26, 3) := by unfold zzOp; rw [zm_40]; decide +kernel
theorem zo_40_12 : zzOp 40 12 = some (.aload_n 0, 1) := by unfold zzOp; rw [zm_40]; decide +kernel
theorem zo_40_13 : zzOp 40 13 = some (.dup, 1) := by unfold zzOp; rw [zm_40]; decide +kernel
theorem zo_40_14 : zzOp 40 14 = some (.getfield 19, 3) := by unfold zzOp; rw [zm_40]; decide +kernel
theorem zo_40_17 : zzOp 40 17 = some (.iconst 1, 1) := by unfold zzOp; rw [zm_40]; decide +kernel
theorem zo_40_18 : zzOp 40 18 = some (.iadd, 1) := by unfold zzOp; rw [zm_40]; decide +kernel
theorem zo_40_19 : zzOp 40 19 = some (.putfield 19, 3) := by unfold zzOp; rw [zm_40]; decide +kernel
theorem zo_40_22 : zzOp 40 22 = some (.aload_n 0, 1) := by unfold zzOp; rw [zm_40]; decide +kernel
theorem zo_40_23 : zzOp 40 23 = some (.getfield 19, 3) := by unfold zzOp; rw [zm_40]; decide +kernel
theorem zo_40_26 : zzOp 40 26 = some (.ireturn, 1) := by unfold zzOp; rw [zm_40]; decide +kernel
theorem zf_40_15 : zzGet zzFL (zzM 40).2.2.2.2.1 15 = some (2, 1) := by rw [zm_40]; decide +kernel
theorem zf_40_19 : zzGet zzFL (zzM 40).2.2.2.2.1 19 = some (2, 2) := by rw [zm_40]; decide +kernel
theorem zl_40_26 : zzGet zzML (zzM 40).2.2.2.2.1 26 = some (1, 126) := by rw [zm_40]; decide +kernel
theorem zm_41 : zzM 41 = (yX2_read, cX2_read, 2, (some .int), 2, 1, 1, zzc_41) := rfl
theorem zr_41 : (zzM 41).2.2.2.1 = (some .int) := by rw [zm_41]
theorem zo_41_0 : zzOp 41 0 = some (.aload_n 0, 1) := by unfold zzOp; rw [zm_41]; decide +kernel
theorem zo_41_1 : zzOp 41 1 = some (.iconst 0, 1) := by unfold zzOp; rw [zm_41]; decide +kernel
theorem zo_41_2 : zzOp 41 2 = some (.putfield 30, 3) := by unfold zzOp; rw [zm_41]; decide +kernel
theorem zo_41_5 : zzOp 41 5 = some (.aload_n 0, 1) := by unfold zzOp; rw [zm_41]; decide +kernel
theorem zo_41_6 : zzOp 41 6 = some (.iconst (-1), 1) := by unfold zzOp; rw [zm_41]; decide +kernel
theorem zo_41_7 : zzOp 41 7 = some (.putfield 23, 3) := by unfold zzOp; rw [zm_41]; decide +kernel
theorem zo_41_10 : zzOp 41 10 = some (.aload_n 0, 1) := by unfold zzOp; rw [zm_41]; decide +kernel
theorem zo_41_11 : zzOp 41 11 = some (.getfield 9, 3) := by unfold zzOp; rw [zm_41]; decide +kernel
theorem zo_41_14 : zzOp 41 14 = some (.invokevirtual 33, 3) := by unfold zzOp; rw [zm_41]; decide +kernel
theorem zo_41_17 : zzOp 41 17 = some (.aload_n 0, 1) := by unfold zzOp; rw [zm_41]; decide +kernel
theorem zo_41_18 : zzOp 41 18 = some (.invokevirtual 38, 3) := by unfold zzOp; rw [zm_41]; decide +kernel
theorem zo_41_21 : zzOp 41 21 = some (.iconst 0, 1) := by unfold zzOp; rw [zm_41]; decide +kernel
theorem zo_41_22 : zzOp 41 22 = some (.istore_n 1, 1) := by unfold zzOp; rw [zm_41]; decide +kernel
theorem zo_41_23 : zzOp 41 23 = some (.iload_n 1, 1) := by unfold zzOp; rw [zm_41]; decide +kernel
theorem zo_41_24 : zzOp 41 24 = some (.iconst 3, 1) := by unfold zzOp; rw [zm_41]; decide +kernel
theorem zo_41_25 : zzOp 41 25 = some (.if_icmp .ge 38, 3) := by unfold zzOp; rw [zm_41]; decide +kernel
theorem zo_41_28 : zzOp 41 28 = some (.aload_n 0, 1) := by unfold zzOp; rw [zm_41]; decide +kernel
theorem zo_41_29 : zzOp 41 29 = some (.sipush 10006, 3) := by unfold zzOp; rw [zm_41]; decide +kernel
theorem zo_41_32 : zzOp 41 32 = some (.iload_n 1, 1) := by unfold zzOp; rw [zm_41]; decide +kernel
theorem zo_41_33 : zzOp 41 33 = some (.iadd, 1) := by unfold zzOp; rw [zm_41]; decide +kernel
theorem zo_41_34 : zzOp 41 34 = some (.invokevirtual 41, 3) := by unfold zzOp; rw [zm_41]; decide +kernel
theorem zo_41_37 : zzOp 41 37 = some (.aload_n 0, 1) := by unfold zzOp; rw [zm_41]; decide +kernel
theorem zo_41_38 : zzOp 41 38 = some (.iconst 0, 1) := by unfold zzOp; rw [zm_41]; decide +kernel
theorem zo_41_39 : zzOp 41 39 = some (.invokevirtual 45, 3) := by unfold zzOp; rw [zm_41]; decide +kernel
theorem zo_41_42 : zzOp 41 42 = some (.aload_n 0, 1) := by unfold zzOp; rw [zm_41]; decide +kernel
theorem zo_41_43 : zzOp 41 43 = some (.sipush 11059, 3) := by unfold zzOp; rw [zm_41]; decide +kernel
theorem zo_41_46 : zzOp 41 46 = some (.invokevirtual 41, 3) := by unfold zzOp; rw [zm_41]; decide +kernel
theorem zo_41_49 : zzOp 41 49 = some (.aload_n 0, 1) := by unfold zzOp; rw [zm_41]; decide +kernel
theorem zo_41_50 : zzOp 41 50 = some (.getfield 9, 3) := by unfold zzOp; rw [zm_41]; decide +kernel
theorem zo_41_53 : zzOp 41 53 = some (.iload_n 1, 1) := by unfold zzOp; rw [zm_41]; decide +kernel
theorem zo_41_54 : zzOp 41 54 = some (.invokevirtual 48, 3) := by unfold zzOp; rw [zm_41]; decide +kernel
theorem zo_41_57 : zzOp 41 57 = some (.iinc 1 1, 3) := by unfold zzOp; rw [zm_41]; decide +kernel
theorem zo_41_60 : zzOp 41 60 = some (.goto (-37), 3) := by unfold zzOp; rw [zm_41]; decide +kernel
theorem zo_41_63 : zzOp 41 63 = some (.aload_n 0, 1) := by unfold zzOp; rw [zm_41]; decide +kernel
theorem zo_41_64 : zzOp 41 64 = some (.getfield 51, 3) := by unfold zzOp; rw [zm_41]; decide +kernel
theorem zo_41_67 : zzOp 41 67 = some (.iconst (-1), 1) := by unfold zzOp; rw [zm_41]; decide +kernel
theorem zo_41_68 : zzOp 41 68 = some (.if_icmp .eq 7, 3) := by unfold zzOp; rw [zm_41]; decide +kernel
theorem zo_41_71 : zzOp 41 71 = some (.aload_n 0, 1) := by unfold zzOp; rw [zm_41]; decide +kernel
theorem zo_41_72 : zzOp 41 72 = some (.invokevirtual 54, 3) := by unfold zzOp; rw [zm_41]; decide +kernel
theorem zo_41_75 : zzOp 41 75 = some (.aload_n 0, 1) := by unfold zzOp; rw [zm_41]; decide +kernel
theorem zo_41_76 : zzOp 41 76 = some (.getfield 23, 3) := by unfold zzOp; rw [zm_41]; decide +kernel
theorem zo_41_79 : zzOp 41 79 = some (.iconst (-1), 1) := by unfold zzOp; rw [zm_41]; decide +kernel
theorem zo_41_80 : zzOp 41 80 = some (.if_icmp .ne 10, 3) := by unfold zzOp; rw [zm_41]; decide +kernel
theorem zo_41_83 : zzOp 41 83 = some (.aload_n 0, 1) := by unfold zzOp; rw [zm_41]; decide +kernel
theorem zo_41_84 : zzOp 41 84 = some (.getfield 9, 3) := by unfold zzOp; rw [zm_41]; decide +kernel
theorem zo_41_87 : zzOp 41 87 = some (.invokevirtual 57, 3) := by unfold zzOp; rw [zm_41]; decide +kernel
theorem zo_41_90 : zzOp 41 90 = some (.aload_n 0, 1) := by unfold zzOp; rw [zm_41]; decide +kernel
theorem zo_41_91 : zzOp 41 91 = some (.iconst 0, 1) := by unfold zzOp; rw [zm_41]; decide +kernel
theorem zo_41_92 : zzOp 41 92 = some (.putfield 19, 3) := by unfold zzOp; rw [zm_41]; decide +kernel
theorem zo_41_95 : zzOp 41 95 = some (.aload_n 0, 1) := by unfold zzOp; rw [zm_41]; decide +kernel
theorem zo_41_96 : zzOp 41 96 = some (.getfield 23, 3) := by unfold zzOp; rw [zm_41]; decide +kernel
theorem zo_41_99 : zzOp 41 99 = some (.ireturn, 1) := by unfold zzOp; rw [zm_41]; decide +kernel
theorem zf_41_9 : zzGet zzFL (zzM 41).2.2.2.2.1 9 = some (2, 0) := by rw [zm_41]; decide +kernel
theorem zf_41_19 : zzGet zzFL (zzM 41).2.2.2.2.1 19 = some (2, 2) := by rw [zm_41]; decide +kernel
theorem zf_41_23 : zzGet zzFL (zzM 41).2.2.2.2.1 23 = some (2, 6) := by rw [zm_41]; decide +kernel
theorem zf_41_30 : zzGet zzFL (zzM 41).2.2.2.2.1 30 = some (2, 4) := by rw [zm_41]; decide +kernel
theorem zf_41_51 : zzGet zzFL (zzM 41).2.2.2.2.1 51 = some (2, 5) := by rw [zm_41]; decide +kernel
theorem zl_41_33 : zzGet zzML (zzM 41).2.2.2.2.1 33 = some (2, 75) := by rw [zm_41]; decide +kernel
theorem zl_41_38 : zzGet zzML (zzM 41).2.2.2.2.1 38 = some (2, 51) := by rw [zm_41]; decide +kernel
theorem zl_41_41 : zzGet zzML (zzM 41).2.2.2.2.1 41 = some (2, 49) := by rw [zm_41]; decide +kernel
theorem zl_41_45 : zzGet zzML (zzM 41).2.2.2.2.1 45 = some (2, 42) := by rw [zm_41]; decide +kernel
theorem zl_41_48 : zzGet zzML (zzM 41).2.2.2.2.1 48 = some (2, 77) := by rw [zm_41]; decide +kernel
theorem zl_41_54 : zzGet zzML (zzM 41).2.2.2.2.1 54 = some (2, 50) := by rw [zm_41]; decide +kernel
theorem zl_41_57 : zzGet zzML (zzM 41).2.2.2.2.1 57 = some (2, 78) := by rw [zm_41]; decide +kernel
theorem zm_42 : zzM 42 = (yX2_readOr, cX2_readOr, 3, none, 2, 2, 1, zzc_42) := rfl
theorem zr_42 : (zzM 42).2.2.2.1 = none := by rw [zm_42]
theorem zo_42_0 : zzOp 42 0 = some (.aload_n 0, 1) := by unfold zzOp; rw [zm_42]; decide +kernel
theorem zo_42_1 : zzOp 42 1 = some (.iload_n 1, 1) := by unfold zzOp; rw [zm_42]; decide +kernel
theorem zo_42_2 : zzOp 42 2 = some (.invokevirtual 60, 3) := by unfold zzOp; rw [zm_42]; decide +kernel
theorem zo_42_5 : zzOp 42 5 = some (.iconst 0, 1) := by unfold zzOp; rw [zm_42]; decide +kernel
theorem zo_42_6 : zzOp 42 6 = some (.istore_n 2, 1) := by unfold zzOp; rw [zm_42]; decide +kernel
theorem zo_42_7 : zzOp 42 7 = some (.iload_n 2, 1) := by unfold zzOp; rw [zm_42]; decide +kernel
theorem zo_42_8 : zzOp 42 8 = some (.sipush 160, 3) := by unfold zzOp; rw [zm_42]; decide +kernel
theorem zo_42_11 : zzOp 42 11 = some (.if_icmp .ge 38, 3) := by unfold zzOp; rw [zm_42]; decide +kernel
theorem zo_42_14 : zzOp 42 14 = some (.aload_n 0, 1) := by unfold zzOp; rw [zm_42]; decide +kernel
theorem zo_42_15 : zzOp 42 15 = some (.getfield 51, 3) := by unfold zzOp; rw [zm_42]; decide +kernel
theorem zo_42_18 : zzOp 42 18 = some (.sipush 10009, 3) := by unfold zzOp; rw [zm_42]; decide +kernel
theorem zo_42_21 : zzOp 42 21 = some (.if_icmp .ne 28, 3) := by unfold zzOp; rw [zm_42]; decide +kernel
theorem zo_42_24 : zzOp 42 24 = some (.aload_n 0, 1) := by unfold zzOp; rw [zm_42]; decide +kernel
theorem zo_42_25 : zzOp 42 25 = some (.invokevirtual 38, 3) := by unfold zzOp; rw [zm_42]; decide +kernel
theorem zo_42_28 : zzOp 42 28 = some (.aload_n 0, 1) := by unfold zzOp; rw [zm_42]; decide +kernel
theorem zo_42_29 : zzOp 42 29 = some (.iload_n 1, 1) := by unfold zzOp; rw [zm_42]; decide +kernel
theorem zo_42_30 : zzOp 42 30 = some (.invokevirtual 60, 3) := by unfold zzOp; rw [zm_42]; decide +kernel
theorem zo_42_33 : zzOp 42 33 = some (.aload_n 0, 1) := by unfold zzOp; rw [zm_42]; decide +kernel
theorem zo_42_34 : zzOp 42 34 = some (.getfield 9, 3) := by unfold zzOp; rw [zm_42]; decide +kernel
theorem zo_42_37 : zzOp 42 37 = some (.sipush 10009, 3) := by unfold zzOp; rw [zm_42]; decide +kernel
theorem zo_42_40 : zzOp 42 40 = some (.invokevirtual 63, 3) := by unfold zzOp; rw [zm_42]; decide +kernel
theorem zo_42_43 : zzOp 42 43 = some (.iinc 2 1, 3) := by unfold zzOp; rw [zm_42]; decide +kernel
theorem zo_42_46 : zzOp 42 46 = some (.goto (-39), 3) := by unfold zzOp; rw [zm_42]; decide +kernel
theorem zo_42_49 : zzOp 42 49 = some (.return_, 1) := by unfold zzOp; rw [zm_42]; decide +kernel
theorem zf_42_9 : zzGet zzFL (zzM 42).2.2.2.2.1 9 = some (2, 0) := by rw [zm_42]; decide +kernel
theorem zf_42_51 : zzGet zzFL (zzM 42).2.2.2.2.1 51 = some (2, 5) := by rw [zm_42]; decide +kernel
theorem zl_42_38 : zzGet zzML (zzM 42).2.2.2.2.1 38 = some (2, 51) := by rw [zm_42]; decide +kernel
theorem zl_42_60 : zzGet zzML (zzM 42).2.2.2.2.1 60 = some (2, 43) := by rw [zm_42]; decide +kernel
theorem zl_42_63 : zzGet zzML (zzM 42).2.2.2.2.1 63 = some (2, 76) := by rw [zm_42]; decide +kernel
theorem zm_43 : zzM 43 = (yX2_readAnd, cX2_readAnd, 3, none, 2, 2, 1, zzc_43) := rfl
theorem zr_43 : (zzM 43).2.2.2.1 = none := by rw [zm_43]
theorem zo_43_0 : zzOp 43 0 = some (.aload_n 0, 1) := by unfold zzOp; rw [zm_43]; decide +kernel
theorem zo_43_1 : zzOp 43 1 = some (.iload_n 1, 1) := by unfold zzOp; rw [zm_43]; decide +kernel
theorem zo_43_2 : zzOp 43 2 = some (.invokevirtual 66, 3) := by unfold zzOp; rw [zm_43]; decide +kernel
theorem zo_43_5 : zzOp 43 5 = some (.iconst 0, 1) := by unfold zzOp; rw [zm_43]; decide +kernel
theorem zo_43_6 : zzOp 43 6 = some (.istore_n 2, 1) := by unfold zzOp; rw [zm_43]; decide +kernel
theorem zo_43_7 : zzOp 43 7 = some (.iload_n 2, 1) := by unfold zzOp; rw [zm_43]; decide +kernel
theorem zo_43_8 : zzOp 43 8 = some (.sipush 160, 3) := by unfold zzOp; rw [zm_43]; decide +kernel
theorem zo_43_11 : zzOp 43 11 = some (.if_icmp .ge 38, 3) := by unfold zzOp; rw [zm_43]; decide +kernel
theorem zo_43_14 : zzOp 43 14 = some (.aload_n 0, 1) := by unfold zzOp; rw [zm_43]; decide +kernel
theorem zo_43_15 : zzOp 43 15 = some (.getfield 51, 3) := by unfold zzOp; rw [zm_43]; decide +kernel
theorem zo_43_18 : zzOp 43 18 = some (.sipush 10010, 3) := by unfold zzOp; rw [zm_43]; decide +kernel
theorem zo_43_21 : zzOp 43 21 = some (.if_icmp .ne 28, 3) := by unfold zzOp; rw [zm_43]; decide +kernel
theorem zo_43_24 : zzOp 43 24 = some (.aload_n 0, 1) := by unfold zzOp; rw [zm_43]; decide +kernel
theorem zo_43_25 : zzOp 43 25 = some (.invokevirtual 38, 3) := by unfold zzOp; rw [zm_43]; decide +kernel
theorem zo_43_28 : zzOp 43 28 = some (.aload_n 0, 1) := by unfold zzOp; rw [zm_43]; decide +kernel
theorem zo_43_29 : zzOp 43 29 = some (.iload_n 1, 1) := by unfold zzOp; rw [zm_43]; decide +kernel
theorem zo_43_30 : zzOp 43 30 = some (.invokevirtual 66, 3) := by unfold zzOp; rw [zm_43]; decide +kernel
theorem zo_43_33 : zzOp 43 33 = some (.aload_n 0, 1) := by unfold zzOp; rw [zm_43]; decide +kernel
theorem zo_43_34 : zzOp 43 34 = some (.getfield 9, 3) := by unfold zzOp; rw [zm_43]; decide +kernel
theorem zo_43_37 : zzOp 43 37 = some (.sipush 10010, 3) := by unfold zzOp; rw [zm_43]; decide +kernel
theorem zo_43_40 : zzOp 43 40 = some (.invokevirtual 63, 3) := by unfold zzOp; rw [zm_43]; decide +kernel
theorem zo_43_43 : zzOp 43 43 = some (.iinc 2 1, 3) := by unfold zzOp; rw [zm_43]; decide +kernel
theorem zo_43_46 : zzOp 43 46 = some (.goto (-39), 3) := by unfold zzOp; rw [zm_43]; decide +kernel
theorem zo_43_49 : zzOp 43 49 = some (.return_, 1) := by unfold zzOp; rw [zm_43]; decide +kernel
theorem zf_43_9 : zzGet zzFL (zzM 43).2.2.2.2.1 9 = some (2, 0) := by rw [zm_43]; decide +kernel
theorem zf_43_51 : zzGet zzFL (zzM 43).2.2.2.2.1 51 = some (2, 5) := by rw [zm_43]; decide +kernel
theorem zl_43_38 : zzGet zzML (zzM 43).2.2.2.2.1 38 = some (2, 51) := by rw [zm_43]; decide +kernel
theorem zl_43_63 : zzGet zzML (zzM 43).2.2.2.2.1 63 = some (2, 76) := by rw [zm_43]; decide +kernel
theorem zl_43_66 : zzGet zzML (zzM 43).2.2.2.2.1 66 = some (2, 44) := by rw [zm_43]; decide +kernel
theorem zm_44 : zzM 44 = (yX2_readNot, cX2_readNot, 3, none, 2, 2, 1, zzc_44) := rfl
theorem zr_44 : (zzM 44).2.2.2.1 = none := by rw [zm_44]
theorem zo_44_0 : zzOp 44 0 = some (.aload_n 0, 1) := by unfold zzOp; rw [zm_44]; decide +kernel
theorem zo_44_1 : zzOp 44 1 = some (.getfield 51, 3) := by unfold zzOp; rw [zm_44]; decide +kernel
theorem zo_44_4 : zzOp 44 4 = some (.sipush 10011, 3) := by unfold zzOp; rw [zm_44]; decide +kernel
theorem zo_44_7 : zzOp 44 7 = some (.if_icmp .ne 29, 3) := by unfold zzOp; rw [zm_44]; decide +kernel
theorem zo_44_10 : zzOp 44 10 = some (.aload_n 0, 1) := by unfold zzOp; rw [zm_44]; decide +kernel
theorem zo_44_11 : zzOp 44 11 = some (.iload_n 1, 1) := by unfold zzOp; rw [zm_44]; decide +kernel
theorem zo_44_12 : zzOp 44 12 = some (.invokevirtual 69, 3) := by unfold zzOp; rw [zm_44]; decide +kernel
theorem zo_44_15 : zzOp 44 15 = some (.ifCond .eq 20, 3) := by unfold zzOp; rw [zm_44]; decide +kernel
theorem zo_44_18 : zzOp 44 18 = some (.aload_n 0, 1) := by unfold zzOp; rw [zm_44]; decide +kernel
theorem zo_44_19 : zzOp 44 19 = some (.iload_n 1, 1) := by unfold zzOp; rw [zm_44]; decide +kernel
theorem zo_44_20 : zzOp 44 20 = some (.iconst 1, 1) := by unfold zzOp; rw [zm_44]; decide +kernel
theorem zo_44_21 : zzOp 44 21 = some (.iadd, 1) := by unfold zzOp; rw [zm_44]; decide +kernel
theorem zo_44_22 : zzOp 44 22 = some (.invokevirtual 66, 3) := by unfold zzOp; rw [zm_44]; decide +kernel
theorem zo_44_25 : zzOp 44 25 = some (.aload_n 0, 1) := by unfold zzOp; rw [zm_44]; decide +kernel
theorem zo_44_26 : zzOp 44 26 = some (.getfield 9, 3) := by unfold zzOp; rw [zm_44]; decide +kernel
theorem zo_44_29 : zzOp 44 29 = some (.sipush 10011, 3) := by unfold zzOp; rw [zm_44]; decide +kernel
theorem zo_44_32 : zzOp 44 32 = some (.invokevirtual 63, 3) := by unfold zzOp; rw [zm_44]; decide +kernel
theorem zo_44_35 : zzOp 44 35 = some (.return_, 1) := by unfold zzOp; rw [zm_44]; decide +kernel
theorem zo_44_36 : zzOp 44 36 = some (.aload_n 0, 1) := by unfold zzOp; rw [zm_44]; decide +kernel
theorem zo_44_37 : zzOp 44 37 = some (.iload_n 1, 1) := by unfold zzOp; rw [zm_44]; decide +kernel
theorem zo_44_38 : zzOp 44 38 = some (.invokevirtual 73, 3) := by unfold zzOp; rw [zm_44]; decide +kernel
theorem zo_44_41 : zzOp 44 41 = some (.aload_n 0, 1) := by unfold zzOp; rw [zm_44]; decide +kernel
theorem zo_44_42 : zzOp 44 42 = some (.getfield 51, 3) := by unfold zzOp; rw [zm_44]; decide +kernel
theorem zo_44_45 : zzOp 44 45 = some (.istore_n 2, 1) := by unfold zzOp; rw [zm_44]; decide +kernel
theorem zo_44_46 : zzOp 44 46 = some (.iload_n 2, 1) := by unfold zzOp; rw [zm_44]; decide +kernel
theorem zo_44_47 : zzOp 44 47 = some (.sipush 11060, 3) := by unfold zzOp; rw [zm_44]; decide +kernel
theorem zo_44_50 : zzOp 44 50 = some (.if_icmp .eq 10, 3) := by unfold zzOp; rw [zm_44]; decide +kernel
theorem zo_44_53 : zzOp 44 53 = some (.iload_n 2, 1) := by unfold zzOp; rw [zm_44]; decide +kernel
theorem zo_44_54 : zzOp 44 54 = some (.sipush 11061, 3) := by unfold zzOp; rw [zm_44]; decide +kernel
theorem zo_44_57 : zzOp 44 57 = some (.if_icmp .ne 20, 3) := by unfold zzOp; rw [zm_44]; decide +kernel
theorem zo_44_60 : zzOp 44 60 = some (.aload_n 0, 1) := by unfold zzOp; rw [zm_44]; decide +kernel
theorem zo_44_61 : zzOp 44 61 = some (.invokevirtual 38, 3) := by unfold zzOp; rw [zm_44]; decide +kernel
theorem zo_44_64 : zzOp 44 64 = some (.aload_n 0, 1) := by unfold zzOp; rw [zm_44]; decide +kernel
theorem zo_44_65 : zzOp 44 65 = some (.iload_n 1, 1) := by unfold zzOp; rw [zm_44]; decide +kernel
theorem zo_44_66 : zzOp 44 66 = some (.invokevirtual 73, 3) := by unfold zzOp; rw [zm_44]; decide +kernel
theorem zo_44_69 : zzOp 44 69 = some (.aload_n 0, 1) := by unfold zzOp; rw [zm_44]; decide +kernel
theorem zo_44_70 : zzOp 44 70 = some (.getfield 9, 3) := by unfold zzOp; rw [zm_44]; decide +kernel
theorem zo_44_73 : zzOp 44 73 = some (.iload_n 2, 1) := by unfold zzOp; rw [zm_44]; decide +kernel
theorem zo_44_74 : zzOp 44 74 = some (.invokevirtual 63, 3) := by unfold zzOp; rw [zm_44]; decide +kernel
theorem zo_44_77 : zzOp 44 77 = some (.return_, 1) := by unfold zzOp; rw [zm_44]; decide +kernel
theorem zf_44_9 : zzGet zzFL (zzM 44).2.2.2.2.1 9 = some (2, 0) := by rw [zm_44]; decide +kernel
theorem zf_44_51 : zzGet zzFL (zzM 44).2.2.2.2.1 51 = some (2, 5) := by rw [zm_44]; decide +kernel
theorem zl_44_38 : zzGet zzML (zzM 44).2.2.2.2.1 38 = some (2, 51) := by rw [zm_44]; decide +kernel
theorem zl_44_63 : zzGet zzML (zzM 44).2.2.2.2.1 63 = some (2, 76) := by rw [zm_44]; decide +kernel
theorem zl_44_66 : zzGet zzML (zzM 44).2.2.2.2.1 66 = some (2, 44) := by rw [zm_44]; decide +kernel
theorem zl_44_69 : zzGet zzML (zzM 44).2.2.2.2.1 69 = some (2, 48) := by rw [zm_44]; decide +kernel
theorem zl_44_73 : zzGet zzML (zzM 44).2.2.2.2.1 73 = some (2, 45) := by rw [zm_44]; decide +kernel
theorem zm_45 : zzM 45 = (yX2_readSum, cX2_readSum, 4, none, 2, 2, 1, zzc_45) := rfl
theorem zr_45 : (zzM 45).2.2.2.1 = none := by rw [zm_45]
theorem zo_45_0 : zzOp 45 0 = some (.aload_n 0, 1) := by unfold zzOp; rw [zm_45]; decide +kernel
theorem zo_45_1 : zzOp 45 1 = some (.iload_n 1, 1) := by unfold zzOp; rw [zm_45]; decide +kernel
theorem zo_45_2 : zzOp 45 2 = some (.invokevirtual 76, 3) := by unfold zzOp; rw [zm_45]; decide +kernel
theorem zo_45_5 : zzOp 45 5 = some (.iconst 0, 1) := by unfold zzOp; rw [zm_45]; decide +kernel
theorem zo_45_6 : zzOp 45 6 = some (.istore_n 2, 1) := by unfold zzOp; rw [zm_45]; decide +kernel
theorem zo_45_7 : zzOp 45 7 = some (.iload_n 2, 1) := by unfold zzOp; rw [zm_45]; decide +kernel
theorem zo_45_8 : zzOp 45 8 = some (.sipush 160, 3) := by unfold zzOp; rw [zm_45]; decide +kernel
theorem zo_45_11 : zzOp 45 11 = some (.if_icmp .ge 51, 3) := by unfold zzOp; rw [zm_45]; decide +kernel
theorem zo_45_14 : zzOp 45 14 = some (.aload_n 0, 1) := by unfold zzOp; rw [zm_45]; decide +kernel
theorem zo_45_15 : zzOp 45 15 = some (.getfield 51, 3) := by unfold zzOp; rw [zm_45]; decide +kernel
theorem zo_45_18 : zzOp 45 18 = some (.sipush 11043, 3) := by unfold zzOp; rw [zm_45]; decide +kernel
theorem zo_45_21 : zzOp 45 21 = some (.if_icmp .eq 13, 3) := by unfold zzOp; rw [zm_45]; decide +kernel
theorem zo_45_24 : zzOp 45 24 = some (.aload_n 0, 1) := by unfold zzOp; rw [zm_45]; decide +kernel
theorem zo_45_25 : zzOp 45 25 = some (.getfield 51, 3) := by unfold zzOp; rw [zm_45]; decide +kernel
theorem zo_45_28 : zzOp 45 28 = some (.sipush 11045, 3) := by unfold zzOp; rw [zm_45]; decide +kernel
theorem zo_45_31 : zzOp 45 31 = some (.if_icmp .ne 31, 3) := by unfold zzOp; rw [zm_45]; decide +kernel
theorem zo_45_34 : zzOp 45 34 = some (.aload_n 0, 1) := by unfold zzOp; rw [zm_45]; decide +kernel
theorem zo_45_35 : zzOp 45 35 = some (.getfield 51, 3) := by unfold zzOp; rw [zm_45]; decide +kernel
theorem zo_45_38 : zzOp 45 38 = some (.istore_n 3, 1) := by unfold zzOp; rw [zm_45]; decide +kernel
theorem zo_45_39 : zzOp 45 39 = some (.aload_n 0, 1) := by unfold zzOp; rw [zm_45]; decide +kernel
theorem zo_45_40 : zzOp 45 40 = some (.invokevirtual 38, 3) := by unfold zzOp; rw [zm_45]; decide +kernel
theorem zo_45_43 : zzOp 45 43 = some (.aload_n 0, 1) := by unfold zzOp; rw [zm_45]; decide +kernel
theorem zo_45_44 : zzOp 45 44 = some (.iload_n 1, 1) := by unfold zzOp; rw [zm_45]; decide +kernel
theorem zo_45_45 : zzOp 45 45 = some (.invokevirtual 76, 3) := by unfold zzOp; rw [zm_45]; decide +kernel
theorem zo_45_48 : zzOp 45 48 = some (.aload_n 0, 1) := by unfold zzOp; rw [zm_45]; decide +kernel
theorem zo_45_49 : zzOp 45 49 = some (.getfield 9, 3) := by unfold zzOp; rw [zm_45]; decide +kernel
theorem zo_45_52 : zzOp 45 52 = some (.iload_n 3, 1) := by unfold zzOp; rw [zm_45]; decide +kernel
theorem zo_45_53 : zzOp 45 53 = some (.invokevirtual 63, 3) := by unfold zzOp; rw [zm_45]; decide +kernel
theorem zo_45_56 : zzOp 45 56 = some (.iinc 2 1, 3) := by unfold zzOp; rw [zm_45]; decide +kernel
theorem zo_45_59 : zzOp 45 59 = some (.goto (-52), 3) := by unfold zzOp; rw [zm_45]; decide +kernel
theorem zo_45_62 : zzOp 45 62 = some (.return_, 1) := by unfold zzOp; rw [zm_45]; decide +kernel
theorem zf_45_9 : zzGet zzFL (zzM 45).2.2.2.2.1 9 = some (2, 0) := by rw [zm_45]; decide +kernel
theorem zf_45_51 : zzGet zzFL (zzM 45).2.2.2.2.1 51 = some (2, 5) := by rw [zm_45]; decide +kernel
theorem zl_45_38 : zzGet zzML (zzM 45).2.2.2.2.1 38 = some (2, 51) := by rw [zm_45]; decide +kernel
theorem zl_45_63 : zzGet zzML (zzM 45).2.2.2.2.1 63 = some (2, 76) := by rw [zm_45]; decide +kernel
theorem zl_45_76 : zzGet zzML (zzM 45).2.2.2.2.1 76 = some (2, 46) := by rw [zm_45]; decide +kernel
theorem zm_46 : zzM 46 = (yX2_readTerm, cX2_readTerm, 3, none, 2, 2, 1, zzc_46) := rfl
theorem zr_46 : (zzM 46).2.2.2.1 = none := by rw [zm_46]
theorem zo_46_0 : zzOp 46 0 = some (.aload_n 0, 1) := by unfold zzOp; rw [zm_46]; decide +kernel
theorem zo_46_1 : zzOp 46 1 = some (.iload_n 1, 1) := by unfold zzOp; rw [zm_46]; decide +kernel
theorem zo_46_2 : zzOp 46 2 = some (.invokevirtual 79, 3) := by unfold zzOp; rw [zm_46]; decide +kernel
theorem zo_46_5 : zzOp 46 5 = some (.iconst 0, 1) := by unfold zzOp; rw [zm_46]; decide +kernel
theorem zo_46_6 : zzOp 46 6 = some (.istore_n 2, 1) := by unfold zzOp; rw [zm_46]; decide +kernel
theorem zo_46_7 : zzOp 46 7 = some (.iload_n 2, 1) := by unfold zzOp; rw [zm_46]; decide +kernel
theorem zo_46_8 : zzOp 46 8 = some (.sipush 160, 3) := by unfold zzOp; rw [zm_46]; decide +kernel
theorem zo_46_11 : zzOp 46 11 = some (.if_icmp .ge 38, 3) := by unfold zzOp; rw [zm_46]; decide +kernel
theorem zo_46_14 : zzOp 46 14 = some (.aload_n 0, 1) := by unfold zzOp; rw [zm_46]; decide +kernel
theorem zo_46_15 : zzOp 46 15 = some (.getfield 51, 3) := by unfold zzOp; rw [zm_46]; decide +kernel
theorem zo_46_18 : zzOp 46 18 = some (.sipush 11042, 3) := by unfold zzOp; rw [zm_46]; decide +kernel
theorem zo_46_21 : zzOp 46 21 = some (.if_icmp .ne 28, 3) := by unfold zzOp; rw [zm_46]; decide +kernel
theorem zo_46_24 : zzOp 46 24 = some (.aload_n 0, 1) := by unfold zzOp; rw [zm_46]; decide +kernel
theorem zo_46_25 : zzOp 46 25 = some (.invokevirtual 38, 3) := by unfold zzOp; rw [zm_46]; decide +kernel
theorem zo_46_28 : zzOp 46 28 = some (.aload_n 0, 1) := by unfold zzOp; rw [zm_46]; decide +kernel
theorem zo_46_29 : zzOp 46 29 = some (.iload_n 1, 1) := by unfold zzOp; rw [zm_46]; decide +kernel
theorem zo_46_30 : zzOp 46 30 = some (.invokevirtual 79, 3) := by unfold zzOp; rw [zm_46]; decide +kernel
theorem zo_46_33 : zzOp 46 33 = some (.aload_n 0, 1) := by unfold zzOp; rw [zm_46]; decide +kernel
theorem zo_46_34 : zzOp 46 34 = some (.getfield 9, 3) := by unfold zzOp; rw [zm_46]; decide +kernel
theorem zo_46_37 : zzOp 46 37 = some (.sipush 11042, 3) := by unfold zzOp; rw [zm_46]; decide +kernel
theorem zo_46_40 : zzOp 46 40 = some (.invokevirtual 63, 3) := by unfold zzOp; rw [zm_46]; decide +kernel
theorem zo_46_43 : zzOp 46 43 = some (.iinc 2 1, 3) := by unfold zzOp; rw [zm_46]; decide +kernel
theorem zo_46_46 : zzOp 46 46 = some (.goto (-39), 3) := by unfold zzOp; rw [zm_46]; decide +kernel
theorem zo_46_49 : zzOp 46 49 = some (.return_, 1) := by unfold zzOp; rw [zm_46]; decide +kernel
theorem zf_46_9 : zzGet zzFL (zzM 46).2.2.2.2.1 9 = some (2, 0) := by rw [zm_46]; decide +kernel
theorem zf_46_51 : zzGet zzFL (zzM 46).2.2.2.2.1 51 = some (2, 5) := by rw [zm_46]; decide +kernel
theorem zl_46_38 : zzGet zzML (zzM 46).2.2.2.2.1 38 = some (2, 51) := by rw [zm_46]; decide +kernel
theorem zl_46_63 : zzGet zzML (zzM 46).2.2.2.2.1 63 = some (2, 76) := by rw [zm_46]; decide +kernel
theorem zl_46_79 : zzGet zzML (zzM 46).2.2.2.2.1 79 = some (2, 47) := by rw [zm_46]; decide +kernel
theorem zm_47 : zzM 47 = (yX2_readOne, cX2_readOne, 2, none, 2, 2, 1, zzc_47) := rfl
theorem zr_47 : (zzM 47).2.2.2.1 = none := by rw [zm_47]
theorem zo_47_0 : zzOp 47 0 = some (.aload_n 0, 1) := by unfold zzOp; rw [zm_47]; decide +kernel
theorem zo_47_1 : zzOp 47 1 = some (.getfield 51, 3) := by unfold zzOp; rw [zm_47]; decide +kernel
theorem zo_47_4 : zzOp 47 4 = some (.ifCond .lt 31, 3) := by unfold zzOp; rw [zm_47]; decide +kernel
theorem zo_47_7 : zzOp 47 7 = some (.aload_n 0, 1) := by unfold zzOp; rw [zm_47]; decide +kernel
theorem zo_47_8 : zzOp 47 8 = some (.getfield 51, 3) := by unfold zzOp; rw [zm_47]; decide +kernel
theorem zo_47_11 : zzOp 47 11 = some (.sipush 10005, 3) := by unfold zzOp; rw [zm_47]; decide +kernel
theorem zo_47_14 : zzOp 47 14 = some (.if_icmp .gt 21, 3) := by unfold zzOp; rw [zm_47]; decide +kernel
theorem zo_47_17 : zzOp 47 17 = some (.aload_n 0, 1) := by unfold zzOp; rw [zm_47]; decide +kernel
theorem zo_47_18 : zzOp 47 18 = some (.getfield 9, 3) := by unfold zzOp; rw [zm_47]; decide +kernel
theorem zo_47_21 : zzOp 47 21 = some (.aload_n 0, 1) := by unfold zzOp; rw [zm_47]; decide +kernel
theorem zo_47_22 : zzOp 47 22 = some (.getfield 51, 3) := by unfold zzOp; rw [zm_47]; decide +kernel
theorem zo_47_25 : zzOp 47 25 = some (.invokevirtual 63, 3) := by unfold zzOp; rw [zm_47]; decide +kernel
theorem zo_47_28 : zzOp 47 28 = some (.aload_n 0, 1) := by unfold zzOp; rw [zm_47]; decide +kernel
theorem zo_47_29 : zzOp 47 29 = some (.invokevirtual 38, 3) := by unfold zzOp; rw [zm_47]; decide +kernel
theorem zo_47_32 : zzOp 47 32 = some (.goto 80, 3) := by unfold zzOp; rw [zm_47]; decide +kernel
theorem zo_47_35 : zzOp 47 35 = some (.aload_n 0, 1) := by unfold zzOp; rw [zm_47]; decide +kernel
theorem zo_47_36 : zzOp 47 36 = some (.getfield 51, 3) := by unfold zzOp; rw [zm_47]; decide +kernel
theorem zo_47_39 : zzOp 47 39 = some (.sipush 11045, 3) := by unfold zzOp; rw [zm_47]; decide +kernel
theorem zo_47_42 : zzOp 47 42 = some (.if_icmp .ne 31, 3) := by unfold zzOp; rw [zm_47]; decide +kernel
theorem zo_47_45 : zzOp 47 45 = some (.aload_n 0, 1) := by unfold zzOp; rw [zm_47]; decide +kernel
theorem zo_47_46 : zzOp 47 46 = some (.iload_n 1, 1) := by unfold zzOp; rw [zm_47]; decide +kernel
theorem zo_47_47 : zzOp 47 47 = some (.invokevirtual 69, 3) := by unfold zzOp; rw [zm_47]; decide +kernel
theorem zo_47_50 : zzOp 47 50 = some (.ifCond .eq 62, 3) := by unfold zzOp; rw [zm_47]; decide +kernel
theorem zo_47_53 : zzOp 47 53 = some (.aload_n 0, 1) := by unfold zzOp; rw [zm_47]; decide +kernel
theorem zo_47_54 : zzOp 47 54 = some (.iload_n 1, 1) := by unfold zzOp; rw [zm_47]; decide +kernel
theorem zo_47_55 : zzOp 47 55 = some (.iconst 1, 1) := by unfold zzOp; rw [zm_47]; decide +kernel
theorem zo_47_56 : zzOp 47 56 = some (.iadd, 1) := by unfold zzOp; rw [zm_47]; decide +kernel
theorem zo_47_57 : zzOp 47 57 = some (.invokevirtual 79, 3) := by unfold zzOp; rw [zm_47]; decide +kernel
theorem zo_47_60 : zzOp 47 60 = some (.aload_n 0, 1) := by unfold zzOp; rw [zm_47]; decide +kernel
theorem zo_47_61 : zzOp 47 61 = some (.getfield 9, 3) := by unfold zzOp; rw [zm_47]; decide +kernel
theorem zo_47_64 : zzOp 47 64 = some (.sipush 10012, 3) := by unfold zzOp; rw [zm_47]; decide +kernel
theorem zo_47_67 : zzOp 47 67 = some (.invokevirtual 63, 3) := by unfold zzOp; rw [zm_47]; decide +kernel
theorem zo_47_70 : zzOp 47 70 = some (.goto 42, 3) := by unfold zzOp; rw [zm_47]; decide +kernel
theorem zo_47_73 : zzOp 47 73 = some (.aload_n 0, 1) := by unfold zzOp; rw [zm_47]; decide +kernel
theorem zo_47_74 : zzOp 47 74 = some (.getfield 51, 3) := by unfold zzOp; rw [zm_47]; decide +kernel
theorem zo_47_77 : zzOp 47 77 = some (.sipush 11040, 3) := by unfold zzOp; rw [zm_47]; decide +kernel
theorem zo_47_80 : zzOp 47 80 = some (.if_icmp .ne 28, 3) := by unfold zzOp; rw [zm_47]; decide +kernel
theorem zo_47_83 : zzOp 47 83 = some (.aload_n 0, 1) := by unfold zzOp; rw [zm_47]; decide +kernel
theorem zo_47_84 : zzOp 47 84 = some (.iload_n 1, 1) := by unfold zzOp; rw [zm_47]; decide +kernel
theorem zo_47_85 : zzOp 47 85 = some (.invokevirtual 69, 3) := by unfold zzOp; rw [zm_47]; decide +kernel
theorem zo_47_88 : zzOp 47 88 = some (.ifCond .eq 24, 3) := by unfold zzOp; rw [zm_47]; decide +kernel
theorem zo_47_91 : zzOp 47 91 = some (.aload_n 0, 1) := by unfold zzOp; rw [zm_47]; decide +kernel
theorem zo_47_92 : zzOp 47 92 = some (.iload_n 1, 1) := by unfold zzOp; rw [zm_47]; decide +kernel
theorem zo_47_93 : zzOp 47 93 = some (.iconst 1, 1) := by unfold zzOp; rw [zm_47]; decide +kernel
theorem zo_47_94 : zzOp 47 94 = some (.iadd, 1) := by unfold zzOp; rw [zm_47]; decide +kernel
theorem zo_47_95 : zzOp 47 95 = some (.invokevirtual 45, 3) := by unfold zzOp; rw [zm_47]; decide +kernel
theorem zo_47_98 : zzOp 47 98 = some (.aload_n 0, 1) := by unfold zzOp; rw [zm_47]; decide +kernel
theorem zo_47_99 : zzOp 47 99 = some (.sipush 11041, 3) := by unfold zzOp; rw [zm_47]; decide +kernel
theorem zo_47_102 : zzOp 47 102 = some (.invokevirtual 41, 3) := by unfold zzOp; rw [zm_47]; decide +kernel
theorem zo_47_105 : zzOp 47 105 = some (.goto 7, 3) := by unfold zzOp; rw [zm_47]; decide +kernel
theorem zo_47_108 : zzOp 47 108 = some (.aload_n 0, 1) := by unfold zzOp; rw [zm_47]; decide +kernel
theorem zo_47_109 : zzOp 47 109 = some (.invokevirtual 54, 3) := by unfold zzOp; rw [zm_47]; decide +kernel
theorem zo_47_112 : zzOp 47 112 = some (.return_, 1) := by unfold zzOp; rw [zm_47]; decide +kernel
theorem zf_47_9 : zzGet zzFL (zzM 47).2.2.2.2.1 9 = some (2, 0) := by rw [zm_47]; decide +kernel
theorem zf_47_51 : zzGet zzFL (zzM 47).2.2.2.2.1 51 = some (2, 5) := by rw [zm_47]; decide +kernel
theorem zl_47_38 : zzGet zzML (zzM 47).2.2.2.2.1 38 = some (2, 51) := by rw [zm_47]; decide +kernel
theorem zl_47_41 : zzGet zzML (zzM 47).2.2.2.2.1 41 = some (2, 49) := by rw [zm_47]; decide +kernel
theorem zl_47_45 : zzGet zzML (zzM 47).2.2.2.2.1 45 = some (2, 42) := by rw [zm_47]; decide +kernel
theorem zl_47_54 : zzGet zzML (zzM 47).2.2.2.2.1 54 = some (2, 50) := by rw [zm_47]; decide +kernel
theorem zl_47_63 : zzGet zzML (zzM 47).2.2.2.2.1 63 = some (2, 76) := by rw [zm_47]; decide +kernel
theorem zl_47_69 : zzGet zzML (zzM 47).2.2.2.2.1 69 = some (2, 48) := by rw [zm_47]; decide +kernel
theorem zl_47_79 : zzGet zzML (zzM 47).2.2.2.2.1 79 = some (2, 47) := by rw [zm_47]; decide +kernel
theorem zm_48 : zzM 48 = (yX2_opens, cX2_opens, 2, (some .boolean), 2, 2, 1, zzc_48) := rfl
theorem zr_48 : (zzM 48).2.2.2.1 = (some .boolean) := by rw [zm_48]
theorem zo_48_0 : zzOp 48 0 = some (.iload_n 1, 1) := by unfold zzOp; rw [zm_48]; decide +kernel
theorem zo_48_1 : zzOp 48 1 = some (.iconst 5, 1) := by unfold zzOp; rw [zm_48]; decide +kernel
theorem zo_48_2 : zzOp 48 2 = some (.if_icmp .lt 9, 3) := by unfold zzOp; rw [zm_48]; decide +kernel
theorem zo_48_5 : zzOp 48 5 = some (.aload_n 0, 1) := by unfold zzOp; rw [zm_48]; decide +kernel
theorem zo_48_6 : zzOp 48 6 = some (.invokevirtual 54, 3) := by unfold zzOp; rw [zm_48]; decide +kernel
theorem zo_48_9 : zzOp 48 9 = some (.iconst 0, 1) := by unfold zzOp; rw [zm_48]; decide +kernel
theorem zo_48_10 : zzOp 48 10 = some (.ireturn, 1) := by unfold zzOp; rw [zm_48]; decide +kernel
theorem zo_48_11 : zzOp 48 11 = some (.aload_n 0, 1) := by unfold zzOp; rw [zm_48]; decide +kernel
theorem zo_48_12 : zzOp 48 12 = some (.invokevirtual 38, 3) := by unfold zzOp; rw [zm_48]; decide +kernel
theorem zo_48_15 : zzOp 48 15 = some (.iconst 1, 1) := by unfold zzOp; rw [zm_48]; decide +kernel
theorem zo_48_16 : zzOp 48 16 = some (.ireturn, 1) := by unfold zzOp; rw [zm_48]; decide +kernel
theorem zl_48_38 : zzGet zzML (zzM 48).2.2.2.2.1 38 = some (2, 51) := by rw [zm_48]; decide +kernel
theorem zl_48_54 : zzGet zzML (zzM 48).2.2.2.2.1 54 = some (2, 50) := by rw [zm_48]; decide +kernel
theorem zm_49 : zzM 49 = (yX2_expect, cX2_expect, 2, none, 2, 2, 1, zzc_49) := rfl
theorem zr_49 : (zzM 49).2.2.2.1 = none := by rw [zm_49]
theorem zo_49_0 : zzOp 49 0 = some (.aload_n 0, 1) := by unfold zzOp; rw [zm_49]; decide +kernel
theorem zo_49_1 : zzOp 49 1 = some (.getfield 51, 3) := by unfold zzOp; rw [zm_49]; decide +kernel
theorem zo_49_4 : zzOp 49 4 = some (.iload_n 1, 1) := by unfold zzOp; rw [zm_49]; decide +kernel
theorem zo_49_5 : zzOp 49 5 = some (.if_icmp .ne 10, 3) := by unfold zzOp; rw [zm_49]; decide +kernel
theorem zo_49_8 : zzOp 49 8 = some (.aload_n 0, 1) := by unfold zzOp; rw [zm_49]; decide +kernel
theorem zo_49_9 : zzOp 49 9 = some (.invokevirtual 38, 3) := by unfold zzOp; rw [zm_49]; decide +kernel
theorem zo_49_12 : zzOp 49 12 = some (.goto 7, 3) := by unfold zzOp; rw [zm_49]; decide +kernel
theorem zo_49_15 : zzOp 49 15 = some (.aload_n 0, 1) := by unfold zzOp; rw [zm_49]; decide +kernel
theorem zo_49_16 : zzOp 49 16 = some (.invokevirtual 54, 3) := by unfold zzOp; rw [zm_49]; decide +kernel
theorem zo_49_19 : zzOp 49 19 = some (.return_, 1) := by unfold zzOp; rw [zm_49]; decide +kernel
theorem zf_49_51 : zzGet zzFL (zzM 49).2.2.2.2.1 51 = some (2, 5) := by rw [zm_49]; decide +kernel
theorem zl_49_38 : zzGet zzML (zzM 49).2.2.2.2.1 38 = some (2, 51) := by rw [zm_49]; decide +kernel
theorem zl_49_54 : zzGet zzML (zzM 49).2.2.2.2.1 54 = some (2, 50) := by rw [zm_49]; decide +kernel
theorem zm_50 : zzM 50 = (yX2_fail, cX2_fail, 1, none, 2, 1, 1, zzc_50) := rfl
theorem zr_50 : (zzM 50).2.2.2.1 = none := by rw [zm_50]
theorem zo_50_0 : zzOp 50 0 = some (.aload_n 0, 1) := by unfold zzOp; rw [zm_50]; decide +kernel
theorem zo_50_1 : zzOp 50 1 = some (.getfield 23, 3) := by unfold zzOp; rw [zm_50]; decide +kernel
theorem zo_50_4 : zzOp 50 4 = some (.iconst (-1), 1) := by unfold zzOp; rw [zm_50]; decide +kernel
theorem zo_50_5 : zzOp 50 5 = some (.if_icmp .ne 11, 3) := by unfold zzOp; rw [zm_50]; decide +kernel
theorem zo_50_8 : zzOp 50 8 = some (.aload_n 0, 1) := by unfold zzOp; rw [zm_50]; decide +kernel
theorem zo_50_9 : zzOp 50 9 = some (.aload_n 0, 1) := by unfold zzOp; rw [zm_50]; decide +kernel
theorem zo_50_10 : zzOp 50 10 = some (.getfield 82, 3) := by unfold zzOp; rw [zm_50]; decide +kernel
theorem zo_50_13 : zzOp 50 13 = some (.putfield 23, 3) := by unfold zzOp; rw [zm_50]; decide +kernel
theorem zo_50_16 : zzOp 50 16 = some (.aload_n 0, 1) := by unfold zzOp; rw [zm_50]; decide +kernel
theorem zo_50_17 : zzOp 50 17 = some (.bipush (-2), 2) := by unfold zzOp; rw [zm_50]; decide +kernel
theorem zo_50_19 : zzOp 50 19 = some (.putfield 51, 3) := by unfold zzOp; rw [zm_50]; decide +kernel
theorem zo_50_22 : zzOp 50 22 = some (.return_, 1) := by unfold zzOp; rw [zm_50]; decide +kernel
theorem zf_50_23 : zzGet zzFL (zzM 50).2.2.2.2.1 23 = some (2, 6) := by rw [zm_50]; decide +kernel
theorem zf_50_51 : zzGet zzFL (zzM 50).2.2.2.2.1 51 = some (2, 5) := by rw [zm_50]; decide +kernel
theorem zf_50_82 : zzGet zzFL (zzM 50).2.2.2.2.1 82 = some (2, 3) := by rw [zm_50]; decide +kernel
theorem zm_51 : zzM 51 = (yX2_advance, cX2_advance, 2, none, 2, 1, 1, zzc_51) := rfl
theorem zr_51 : (zzM 51).2.2.2.1 = none := by rw [zm_51]
theorem zo_51_0 : zzOp 51 0 = some (.aload_n 0, 1) := by unfold zzOp; rw [zm_51]; decide +kernel
theorem zo_51_1 : zzOp 51 1 = some (.getfield 30, 3) := by unfold zzOp; rw [zm_51]; decide +kernel
theorem zo_51_4 : zzOp 51 4 = some (.aload_n 0, 1) := by unfold zzOp; rw [zm_51]; decide +kernel
theorem zo_51_5 : zzOp 51 5 = some (.getfield 19, 3) := by unfold zzOp; rw [zm_51]; decide +kernel
theorem zo_51_8 : zzOp 51 8 = some (.if_icmp .ge 30, 3) := by unfold zzOp; rw [zm_51]; decide +kernel
theorem zo_51_11 : zzOp 51 11 = some (.aload_n 0, 1) := by unfold zzOp; rw [zm_51]; decide +kernel
theorem zo_51_12 : zzOp 51 12 = some (.aload_n 0, 1) := by unfold zzOp; rw [zm_51]; decide +kernel
theorem zo_51_13 : zzOp 51 13 = some (.getfield 30, 3) := by unfold zzOp; rw [zm_51]; decide +kernel
theorem zo_51_16 : zzOp 51 16 = some (.invokevirtual 85, 3) := by unfold zzOp; rw [zm_51]; decide +kernel
theorem zo_51_19 : zzOp 51 19 = some (.invokestatic 89, 3) := by unfold zzOp; rw [zm_51]; decide +kernel
theorem zo_51_22 : zzOp 51 22 = some (.ifCond .eq 16, 3) := by unfold zzOp; rw [zm_51]; decide +kernel
theorem zo_51_25 : zzOp 51 25 = some (.aload_n 0, 1) := by unfold zzOp; rw [zm_51]; decide +kernel
theorem zo_51_26 : zzOp 51 26 = some (.dup, 1) := by unfold zzOp; rw [zm_51]; decide +kernel
theorem zo_51_27 : zzOp 51 27 = some (.getfield 30, 3) := by unfold zzOp; rw [zm_51]; decide +kernel
theorem zo_51_30 : zzOp 51 30 = some (.iconst 1, 1) := by unfold zzOp; rw [zm_51]; decide +kernel
theorem zo_51_31 : zzOp 51 31 = some (.iadd, 1) := by unfold zzOp; rw [zm_51]; decide +kernel
theorem zo_51_32 : zzOp 51 32 = some (.putfield 30, 3) := by unfold zzOp; rw [zm_51]; decide +kernel
theorem zo_51_35 : zzOp 51 35 = some (.goto (-35), 3) := by unfold zzOp; rw [zm_51]; decide +kernel
theorem zo_51_38 : zzOp 51 38 = some (.aload_n 0, 1) := by unfold zzOp; rw [zm_51]; decide +kernel
theorem zo_51_39 : zzOp 51 39 = some (.aload_n 0, 1) := by unfold zzOp; rw [zm_51]; decide +kernel
theorem zo_51_40 : zzOp 51 40 = some (.getfield 30, 3) := by unfold zzOp; rw [zm_51]; decide +kernel
theorem zo_51_43 : zzOp 51 43 = some (.putfield 82, 3) := by unfold zzOp; rw [zm_51]; decide +kernel
theorem zo_51_46 : zzOp 51 46 = some (.aload_n 0, 1) := by unfold zzOp; rw [zm_51]; decide +kernel
theorem zo_51_47 : zzOp 51 47 = some (.aload_n 0, 1) := by unfold zzOp; rw [zm_51]; decide +kernel
theorem zo_51_48 : zzOp 51 48 = some (.getfield 30, 3) := by unfold zzOp; rw [zm_51]; decide +kernel
theorem zo_51_51 : zzOp 51 51 = some (.invokevirtual 85, 3) := by unfold zzOp; rw [zm_51]; decide +kernel
theorem zo_51_54 : zzOp 51 54 = some (.istore_n 1, 1) := by unfold zzOp; rw [zm_51]; decide +kernel
theorem zo_51_55 : zzOp 51 55 = some (.iload_n 1, 1) := by unfold zzOp; rw [zm_51]; decide +kernel
theorem zo_51_56 : zzOp 51 56 = some (.iconst (-1), 1) := by unfold zzOp; rw [zm_51]; decide +kernel
theorem zo_51_57 : zzOp 51 57 = some (.if_icmp .ne 11, 3) := by unfold zzOp; rw [zm_51]; decide +kernel
theorem zo_51_60 : zzOp 51 60 = some (.aload_n 0, 1) := by unfold zzOp; rw [zm_51]; decide +kernel
theorem zo_51_61 : zzOp 51 61 = some (.iconst (-1), 1) := by unfold zzOp; rw [zm_51]; decide +kernel
theorem zo_51_62 : zzOp 51 62 = some (.putfield 51, 3) := by unfold zzOp; rw [zm_51]; decide +kernel
theorem zo_51_65 : zzOp 51 65 = some (.goto 36, 3) := by unfold zzOp; rw [zm_51]; decide +kernel
theorem zo_51_68 : zzOp 51 68 = some (.iload_n 1, 1) := by unfold zzOp; rw [zm_51]; decide +kernel
theorem zo_51_69 : zzOp 51 69 = some (.invokestatic 92, 3) := by unfold zzOp; rw [zm_51]; decide +kernel
theorem zo_51_72 : zzOp 51 72 = some (.ifCond .eq 10, 3) := by unfold zzOp; rw [zm_51]; decide +kernel
theorem zo_51_75 : zzOp 51 75 = some (.aload_n 0, 1) := by unfold zzOp; rw [zm_51]; decide +kernel
theorem zo_51_76 : zzOp 51 76 = some (.invokevirtual 95, 3) := by unfold zzOp; rw [zm_51]; decide +kernel
theorem zo_51_79 : zzOp 51 79 = some (.goto 22, 3) := by unfold zzOp; rw [zm_51]; decide +kernel
theorem zo_51_82 : zzOp 51 82 = some (.iload_n 1, 1) := by unfold zzOp; rw [zm_51]; decide +kernel
theorem zo_51_83 : zzOp 51 83 = some (.invokestatic 98, 3) := by unfold zzOp; rw [zm_51]; decide +kernel
theorem zo_51_86 : zzOp 51 86 = some (.ifCond .eq 10, 3) := by unfold zzOp; rw [zm_51]; decide +kernel
theorem zo_51_89 : zzOp 51 89 = some (.aload_n 0, 1) := by unfold zzOp; rw [zm_51]; decide +kernel
theorem zo_51_90 : zzOp 51 90 = some (.invokevirtual 101, 3) := by unfold zzOp; rw [zm_51]; decide +kernel
theorem zo_51_93 : zzOp 51 93 = some (.goto 8, 3) := by unfold zzOp; rw [zm_51]; decide +kernel
theorem zo_51_96 : zzOp 51 96 = some (.aload_n 0, 1) := by unfold zzOp; rw [zm_51]; decide +kernel
theorem zo_51_97 : zzOp 51 97 = some (.iload_n 1, 1) := by unfold zzOp; rw [zm_51]; decide +kernel
theorem zo_51_98 : zzOp 51 98 = some (.invokevirtual 104, 3) := by unfold zzOp; rw [zm_51]; decide +kernel
theorem zo_51_101 : zzOp 51 101 = some (.return_, 1) := by unfold zzOp; rw [zm_51]; decide +kernel
theorem zf_51_19 : zzGet zzFL (zzM 51).2.2.2.2.1 19 = some (2, 2) := by rw [zm_51]; decide +kernel
theorem zf_51_30 : zzGet zzFL (zzM 51).2.2.2.2.1 30 = some (2, 4) := by rw [zm_51]; decide +kernel
theorem zf_51_51 : zzGet zzFL (zzM 51).2.2.2.2.1 51 = some (2, 5) := by rw [zm_51]; decide +kernel
theorem zf_51_82 : zzGet zzFL (zzM 51).2.2.2.2.1 82 = some (2, 3) := by rw [zm_51]; decide +kernel
theorem zl_51_85 : zzGet zzML (zzM 51).2.2.2.2.1 85 = some (2, 57) := by rw [zm_51]; decide +kernel
theorem zl_51_89 : zzGet zzML (zzM 51).2.2.2.2.1 89 = some (0, 58) := by rw [zm_51]; decide +kernel
theorem zl_51_92 : zzGet zzML (zzM 51).2.2.2.2.1 92 = some (0, 59) := by rw [zm_51]; decide +kernel
theorem zl_51_95 : zzGet zzML (zzM 51).2.2.2.2.1 95 = some (2, 52) := by rw [zm_51]; decide +kernel
theorem zl_51_98 : zzGet zzML (zzM 51).2.2.2.2.1 98 = some (0, 60) := by rw [zm_51]; decide +kernel
theorem zl_51_101 : zzGet zzML (zzM 51).2.2.2.2.1 101 = some (2, 55) := by rw [zm_51]; decide +kernel
theorem zl_51_104 : zzGet zzML (zzM 51).2.2.2.2.1 104 = some (2, 56) := by rw [zm_51]; decide +kernel
theorem zm_52 : zzM 52 = (yX2_advanceWord, cX2_advanceWord, 2, none, 2, 1, 1, zzc_52) := rfl
theorem zr_52 : (zzM 52).2.2.2.1 = none := by rw [zm_52]
theorem zo_52_0 : zzOp 52 0 = some (.aload_n 0, 1) := by unfold zzOp; rw [zm_52]; decide +kernel
theorem zo_52_1 : zzOp 52 1 = some (.getfield 30, 3) := by unfold zzOp; rw [zm_52]; decide +kernel
theorem zo_52_4 : zzOp 52 4 = some (.aload_n 0, 1) := by unfold zzOp; rw [zm_52]; decide +kernel
theorem zo_52_5 : zzOp 52 5 = some (.getfield 19, 3) := by unfold zzOp; rw [zm_52]; decide +kernel
theorem zo_52_8 : zzOp 52 8 = some (.if_icmp .ge 30, 3) := by unfold zzOp; rw [zm_52]; decide +kernel
theorem zo_52_11 : zzOp 52 11 = some (.aload_n 0, 1) := by unfold zzOp; rw [zm_52]; decide +kernel
theorem zo_52_12 : zzOp 52 12 = some (.aload_n 0, 1) := by unfold zzOp; rw [zm_52]; decide +kernel
theorem zo_52_13 : zzOp 52 13 = some (.getfield 30, 3) := by unfold zzOp; rw [zm_52]; decide +kernel
theorem zo_52_16 : zzOp 52 16 = some (.invokevirtual 85, 3) := by unfold zzOp; rw [zm_52]; decide +kernel
theorem zo_52_19 : zzOp 52 19 = some (.invokestatic 92, 3) := by unfold zzOp; rw [zm_52]; decide +kernel
theorem zo_52_22 : zzOp 52 22 = some (.ifCond .eq 16, 3) := by unfold zzOp; rw [zm_52]; decide +kernel
theorem zo_52_25 : zzOp 52 25 = some (.aload_n 0, 1) := by unfold zzOp; rw [zm_52]; decide +kernel
theorem zo_52_26 : zzOp 52 26 = some (.dup, 1) := by unfold zzOp; rw [zm_52]; decide +kernel
theorem zo_52_27 : zzOp 52 27 = some (.getfield 30, 3) := by unfold zzOp; rw [zm_52]; decide +kernel
theorem zo_52_30 : zzOp 52 30 = some (.iconst 1, 1) := by unfold zzOp; rw [zm_52]; decide +kernel
theorem zo_52_31 : zzOp 52 31 = some (.iadd, 1) := by unfold zzOp; rw [zm_52]; decide +kernel
theorem zo_52_32 : zzOp 52 32 = some (.putfield 30, 3) := by unfold zzOp; rw [zm_52]; decide +kernel
theorem zo_52_35 : zzOp 52 35 = some (.goto (-35), 3) := by unfold zzOp; rw [zm_52]; decide +kernel
theorem zo_52_38 : zzOp 52 38 = some (.sipush 10000, 3) := by unfold zzOp; rw [zm_52]; decide +kernel
theorem zo_52_41 : zzOp 52 41 = some (.istore_n 1, 1) := by unfold zzOp; rw [zm_52]; decide +kernel
theorem zo_52_42 : zzOp 52 42 = some (.iload_n 1, 1) := by unfold zzOp; rw [zm_52]; decide +kernel
theorem zo_52_43 : zzOp 52 43 = some (.sipush 10011, 3) := by unfold zzOp; rw [zm_52]; decide +kernel
theorem zo_52_46 : zzOp 52 46 = some (.if_icmp .gt 26, 3) := by unfold zzOp; rw [zm_52]; decide +kernel
theorem zo_52_49 : zzOp 52 49 = some (.aload_n 0, 1) := by unfold zzOp; rw [zm_52]; decide +kernel
theorem zo_52_50 : zzOp 52 50 = some (.iload_n 1, 1) := by unfold zzOp; rw [zm_52]; decide +kernel
theorem zo_52_51 : zzOp 52 51 = some (.invokestatic 107, 3) := by unfold zzOp; rw [zm_52]; decide +kernel
theorem zo_52_54 : zzOp 52 54 = some (.invokevirtual 111, 3) := by unfold zzOp; rw [zm_52]; decide +kernel
theorem zo_52_57 : zzOp 52 57 = some (.ifCond .eq 9, 3) := by unfold zzOp; rw [zm_52]; decide +kernel
theorem zo_52_60 : zzOp 52 60 = some (.aload_n 0, 1) := by unfold zzOp; rw [zm_52]; decide +kernel
theorem zo_52_61 : zzOp 52 61 = some (.iload_n 1, 1) := by unfold zzOp; rw [zm_52]; decide +kernel
theorem zo_52_62 : zzOp 52 62 = some (.putfield 51, 3) := by unfold zzOp; rw [zm_52]; decide +kernel
theorem zo_52_65 : zzOp 52 65 = some (.return_, 1) := by unfold zzOp; rw [zm_52]; decide +kernel
theorem zo_52_66 : zzOp 52 66 = some (.iinc 1 1, 3) := by unfold zzOp; rw [zm_52]; decide +kernel
theorem zo_52_69 : zzOp 52 69 = some (.goto (-27), 3) := by unfold zzOp; rw [zm_52]; decide +kernel
theorem zo_52_72 : zzOp 52 72 = some (.aload_n 0, 1) := by unfold zzOp; rw [zm_52]; decide +kernel
theorem zo_52_73 : zzOp 52 73 = some (.invokevirtual 54, 3) := by unfold zzOp; rw [zm_52]; decide +kernel
theorem zo_52_76 : zzOp 52 76 = some (.return_, 1) := by unfold zzOp; rw [zm_52]; decide +kernel
theorem zf_52_19 : zzGet zzFL (zzM 52).2.2.2.2.1 19 = some (2, 2) := by rw [zm_52]; decide +kernel
theorem zf_52_30 : zzGet zzFL (zzM 52).2.2.2.2.1 30 = some (2, 4) := by rw [zm_52]; decide +kernel
theorem zf_52_51 : zzGet zzFL (zzM 52).2.2.2.2.1 51 = some (2, 5) := by rw [zm_52]; decide +kernel
theorem zl_52_54 : zzGet zzML (zzM 52).2.2.2.2.1 54 = some (2, 50) := by rw [zm_52]; decide +kernel
theorem zl_52_85 : zzGet zzML (zzM 52).2.2.2.2.1 85 = some (2, 57) := by rw [zm_52]; decide +kernel
theorem zl_52_92 : zzGet zzML (zzM 52).2.2.2.2.1 92 = some (0, 59) := by rw [zm_52]; decide +kernel
theorem zl_52_107 : zzGet zzML (zzM 52).2.2.2.2.1 107 = some (0, 54) := by rw [zm_52]; decide +kernel
theorem zl_52_111 : zzGet zzML (zzM 52).2.2.2.2.1 111 = some (2, 53) := by rw [zm_52]; decide +kernel
theorem zm_53 : zzM 53 = (yX2_isWord, cX2_isWord, 3, (some .boolean), 2, 2, 1, zzc_53) := rfl
theorem zr_53 : (zzM 53).2.2.2.1 = (some .boolean) := by rw [zm_53]
theorem zo_53_0 : zzOp 53 0 = some (.aload_n 1, 1) := by unfold zzOp; rw [zm_53]; decide +kernel
theorem zo_53_1 : zzOp 53 1 = some (.invokevirtual 115, 3) := by unfold zzOp; rw [zm_53]; decide +kernel
theorem zo_53_4 : zzOp 53 4 = some (.aload_n 0, 1) := by unfold zzOp; rw [zm_53]; decide +kernel
theorem zo_53_5 : zzOp 53 5 = some (.getfield 30, 3) := by unfold zzOp; rw [zm_53]; decide +kernel
theorem zo_53_8 : zzOp 53 8 = some (.aload_n 0, 1) := by unfold zzOp; rw [zm_53]; decide +kernel
theorem zo_53_9 : zzOp 53 9 = some (.getfield 82, 3) := by unfold zzOp; rw [zm_53]; decide +kernel
theorem zo_53_12 : zzOp 53 12 = some (.isub, 1) := by unfold zzOp; rw [zm_53]; decide +kernel
theorem zo_53_13 : zzOp 53 13 = some (.if_icmp .eq 5, 3) := by unfold zzOp; rw [zm_53]; decide +kernel
theorem zo_53_16 : zzOp 53 16 = some (.iconst 0, 1) := by unfold zzOp; rw [zm_53]; decide +kernel
theorem zo_53_17 : zzOp 53 17 = some (.ireturn, 1) := by unfold zzOp; rw [zm_53]; decide +kernel
theorem zo_53_18 : zzOp 53 18 = some (.iconst 0, 1) := by unfold zzOp; rw [zm_53]; decide +kernel
theorem zo_53_19 : zzOp 53 19 = some (.istore_n 2, 1) := by unfold zzOp; rw [zm_53]; decide +kernel
theorem zo_53_20 : zzOp 53 20 = some (.iload_n 2, 1) := by unfold zzOp; rw [zm_53]; decide +kernel
theorem zo_53_21 : zzOp 53 21 = some (.aload_n 1, 1) := by unfold zzOp; rw [zm_53]; decide +kernel
theorem zo_53_22 : zzOp 53 22 = some (.invokevirtual 115, 3) := by unfold zzOp; rw [zm_53]; decide +kernel
theorem zo_53_25 : zzOp 53 25 = some (.if_icmp .ge 29, 3) := by unfold zzOp; rw [zm_53]; decide +kernel
theorem zo_53_28 : zzOp 53 28 = some (.aload_n 1, 1) := by unfold zzOp; rw [zm_53]; decide +kernel
theorem zo_53_29 : zzOp 53 29 = some (.iload_n 2, 1) := by unfold zzOp; rw [zm_53]; decide +kernel
theorem zo_53_30 : zzOp 53 30 = some (.invokevirtual 121, 3) := by unfold zzOp; rw [zm_53]; decide +kernel
theorem zo_53_33 : zzOp 53 33 = some (.aload_n 0, 1) := by unfold zzOp; rw [zm_53]; decide +kernel
theorem zo_53_34 : zzOp 53 34 = some (.aload_n 0, 1) := by unfold zzOp; rw [zm_53]; decide +kernel
theorem zo_53_35 : zzOp 53 35 = some (.getfield 82, 3) := by unfold zzOp; rw [zm_53]; decide +kernel
theorem zo_53_38 : zzOp 53 38 = some (.iload_n 2, 1) := by unfold zzOp; rw [zm_53]; decide +kernel
theorem zo_53_39 : zzOp 53 39 = some (.iadd, 1) := by unfold zzOp; rw [zm_53]; decide +kernel
theorem zo_53_40 : zzOp 53 40 = some (.invokevirtual 85, 3) := by unfold zzOp; rw [zm_53]; decide +kernel
theorem zo_53_43 : zzOp 53 43 = some (.if_icmp .eq 5, 3) := by unfold zzOp; rw [zm_53]; decide +kernel
theorem zo_53_46 : zzOp 53 46 = some (.iconst 0, 1) := by unfold zzOp; rw [zm_53]; decide +kernel
theorem zo_53_47 : zzOp 53 47 = some (.ireturn, 1) := by unfold zzOp; rw [zm_53]; decide +kernel
theorem zo_53_48 : zzOp 53 48 = some (.iinc 2 1, 3) := by unfold zzOp; rw [zm_53]; decide +kernel
theorem zo_53_51 : zzOp 53 51 = some (.goto (-31), 3) := by unfold zzOp; rw [zm_53]; decide +kernel
theorem zo_53_54 : zzOp 53 54 = some (.iconst 1, 1) := by unfold zzOp; rw [zm_53]; decide +kernel
theorem zo_53_55 : zzOp 53 55 = some (.ireturn, 1) := by unfold zzOp; rw [zm_53]; decide +kernel
theorem zf_53_30 : zzGet zzFL (zzM 53).2.2.2.2.1 30 = some (2, 4) := by rw [zm_53]; decide +kernel
theorem zf_53_82 : zzGet zzFL (zzM 53).2.2.2.2.1 82 = some (2, 3) := by rw [zm_53]; decide +kernel
theorem zl_53_85 : zzGet zzML (zzM 53).2.2.2.2.1 85 = some (2, 57) := by rw [zm_53]; decide +kernel
theorem zl_53_115 : zzGet zzML (zzM 53).2.2.2.2.1 115 = some (6, 0) := by rw [zm_53]; decide +kernel
theorem zl_53_121 : zzGet zzML (zzM 53).2.2.2.2.1 121 = some (7, 0) := by rw [zm_53]; decide +kernel
theorem zm_54 : zzM 54 = (yX2_spelling, cX2_spelling, 1, (some (.object "java/lang/String")), 2, 1, 0, zzc_54) := rfl
theorem zr_54 : (zzM 54).2.2.2.1 = (some (.object "java/lang/String")) := by rw [zm_54]
theorem zo_54_0 : zzOp 54 0 = some (.iload_n 0, 1) := by unfold zzOp; rw [zm_54]; decide +kernel
theorem zo_54_1 : zzOp 54 1 = some (.tableswitch 92 10000 10010 #[59, 62, 65, 68, 71, 74, 77, 80, 83, 86, 89], 59) := by unfold zzOp; rw [zm_54]; decide +kernel
theorem zo_54_60 : zzOp 54 60 = some (.ldc 125, 2) := by unfold zzOp; rw [zm_54]; decide +kernel
theorem zo_54_62 : zzOp 54 62 = some (.areturn, 1) := by unfold zzOp; rw [zm_54]; decide +kernel
theorem zo_54_63 : zzOp 54 63 = some (.ldc 127, 2) := by unfold zzOp; rw [zm_54]; decide +kernel
theorem zo_54_65 : zzOp 54 65 = some (.areturn, 1) := by unfold zzOp; rw [zm_54]; decide +kernel
theorem zo_54_66 : zzOp 54 66 = some (.ldc 129, 2) := by unfold zzOp; rw [zm_54]; decide +kernel
theorem zo_54_68 : zzOp 54 68 = some (.areturn, 1) := by unfold zzOp; rw [zm_54]; decide +kernel
theorem zo_54_69 : zzOp 54 69 = some (.ldc 131, 2) := by unfold zzOp; rw [zm_54]; decide +kernel
theorem zo_54_71 : zzOp 54 71 = some (.areturn, 1) := by unfold zzOp; rw [zm_54]; decide +kernel
theorem zo_54_72 : zzOp 54 72 = some (.ldc 133, 2) := by unfold zzOp; rw [zm_54]; decide +kernel
theorem zo_54_74 : zzOp 54 74 = some (.areturn, 1) := by unfold zzOp; rw [zm_54]; decide +kernel
theorem zo_54_75 : zzOp 54 75 = some (.ldc 135, 2) := by unfold zzOp; rw [zm_54]; decide +kernel
theorem zo_54_77 : zzOp 54 77 = some (.areturn, 1) := by unfold zzOp; rw [zm_54]; decide +kernel
theorem zo_54_78 : zzOp 54 78 = some (.ldc 137, 2) := by unfold zzOp; rw [zm_54]; decide +kernel
theorem zo_54_80 : zzOp 54 80 = some (.areturn, 1) := by unfold zzOp; rw [zm_54]; decide +kernel
theorem zo_54_81 : zzOp 54 81 = some (.ldc 139, 2) := by unfold zzOp; rw [zm_54]; decide +kernel
theorem zo_54_83 : zzOp 54 83 = some (.areturn, 1) := by unfold zzOp; rw [zm_54]; decide +kernel
theorem zo_54_84 : zzOp 54 84 = some (.ldc 141, 2) := by unfold zzOp; rw [zm_54]; decide +kernel
theorem zo_54_86 : zzOp 54 86 = some (.areturn, 1) := by unfold zzOp; rw [zm_54]; decide +kernel
theorem zo_54_87 : zzOp 54 87 = some (.ldc 143, 2) := by unfold zzOp; rw [zm_54]; decide +kernel
theorem zo_54_89 : zzOp 54 89 = some (.areturn, 1) := by unfold zzOp; rw [zm_54]; decide +kernel
theorem zo_54_90 : zzOp 54 90 = some (.ldc 145, 2) := by unfold zzOp; rw [zm_54]; decide +kernel
theorem zo_54_92 : zzOp 54 92 = some (.areturn, 1) := by unfold zzOp; rw [zm_54]; decide +kernel
theorem zo_54_93 : zzOp 54 93 = some (.ldc 147, 2) := by unfold zzOp; rw [zm_54]; decide +kernel
theorem zo_54_95 : zzOp 54 95 = some (.areturn, 1) := by unfold zzOp; rw [zm_54]; decide +kernel
theorem zc_54_125 : zzGet zzKS (zzM 54).2.2.2.2.1 125 = some 1 := by rw [zm_54]; decide +kernel
theorem zc_54_127 : zzGet zzKS (zzM 54).2.2.2.2.1 127 = some 2 := by rw [zm_54]; decide +kernel
theorem zc_54_129 : zzGet zzKS (zzM 54).2.2.2.2.1 129 = some 3 := by rw [zm_54]; decide +kernel
theorem zc_54_131 : zzGet zzKS (zzM 54).2.2.2.2.1 131 = some 4 := by rw [zm_54]; decide +kernel
theorem zc_54_133 : zzGet zzKS (zzM 54).2.2.2.2.1 133 = some 5 := by rw [zm_54]; decide +kernel
theorem zc_54_135 : zzGet zzKS (zzM 54).2.2.2.2.1 135 = some 6 := by rw [zm_54]; decide +kernel
theorem zc_54_137 : zzGet zzKS (zzM 54).2.2.2.2.1 137 = some 7 := by rw [zm_54]; decide +kernel
theorem zc_54_139 : zzGet zzKS (zzM 54).2.2.2.2.1 139 = some 8 := by rw [zm_54]; decide +kernel
theorem zc_54_141 : zzGet zzKS (zzM 54).2.2.2.2.1 141 = some 9 := by rw [zm_54]; decide +kernel
theorem zc_54_143 : zzGet zzKS (zzM 54).2.2.2.2.1 143 = some 10 := by rw [zm_54]; decide +kernel
theorem zc_54_145 : zzGet zzKS (zzM 54).2.2.2.2.1 145 = some 11 := by rw [zm_54]; decide +kernel
theorem zc_54_147 : zzGet zzKS (zzM 54).2.2.2.2.1 147 = some 12 := by rw [zm_54]; decide +kernel
theorem zm_55 : zzM 55 = (yX2_advanceNumber, cX2_advanceNumber, 2, none, 2, 1, 1, zzc_55) := rfl
theorem zr_55 : (zzM 55).2.2.2.1 = none := by rw [zm_55]
theorem zo_55_0 : zzOp 55 0 = some (.iconst 0, 1) := by unfold zzOp; rw [zm_55]; decide +kernel
theorem zo_55_1 : zzOp 55 1 = some (.istore_n 1, 1) := by unfold zzOp; rw [zm_55]; decide +kernel
theorem zo_55_2 : zzOp 55 2 = some (.aload_n 0, 1) := by unfold zzOp; rw [zm_55]; decide +kernel
theorem zo_55_3 : zzOp 55 3 = some (.getfield 30, 3) := by unfold zzOp; rw [zm_55]; decide +kernel
theorem zo_55_6 : zzOp 55 6 = some (.aload_n 0, 1) := by unfold zzOp; rw [zm_55]; decide +kernel
theorem zo_55_7 : zzOp 55 7 = some (.getfield 19, 3) := by unfold zzOp; rw [zm_55]; decide +kernel
theorem zo_55_10 : zzOp 55 10 = some (.if_icmp .ge 47, 3) := by unfold zzOp; rw [zm_55]; decide +kernel
theorem zo_55_13 : zzOp 55 13 = some (.aload_n 0, 1) := by unfold zzOp; rw [zm_55]; decide +kernel
theorem zo_55_14 : zzOp 55 14 = some (.aload_n 0, 1) := by unfold zzOp; rw [zm_55]; decide +kernel
theorem zo_55_15 : zzOp 55 15 = some (.getfield 30, 3) := by unfold zzOp; rw [zm_55]; decide +kernel
theorem zo_55_18 : zzOp 55 18 = some (.invokevirtual 85, 3) := by unfold zzOp; rw [zm_55]; decide +kernel
theorem zo_55_21 : zzOp 55 21 = some (.invokestatic 98, 3) := by unfold zzOp; rw [zm_55]; decide +kernel
theorem zo_55_24 : zzOp 55 24 = some (.ifCond .eq 33, 3) := by unfold zzOp; rw [zm_55]; decide +kernel
theorem zo_55_27 : zzOp 55 27 = some (.iload_n 1, 1) := by unfold zzOp; rw [zm_55]; decide +kernel
theorem zo_55_28 : zzOp 55 28 = some (.bipush 10, 2) := by unfold zzOp; rw [zm_55]; decide +kernel
theorem zo_55_30 : zzOp 55 30 = some (.imul, 1) := by unfold zzOp; rw [zm_55]; decide +kernel
theorem zo_55_31 : zzOp 55 31 = some (.aload_n 0, 1) := by unfold zzOp; rw [zm_55]; decide +kernel
theorem zo_55_32 : zzOp 55 32 = some (.aload_n 0, 1) := by unfold zzOp; rw [zm_55]; decide +kernel
theorem zo_55_33 : zzOp 55 33 = some (.getfield 30, 3) := by unfold zzOp; rw [zm_55]; decide +kernel
theorem zo_55_36 : zzOp 55 36 = some (.invokevirtual 85, 3) := by unfold zzOp; rw [zm_55]; decide +kernel
theorem zo_55_39 : zzOp 55 39 = some (.iadd, 1) := by unfold zzOp; rw [zm_55]; decide +kernel
theorem zo_55_40 : zzOp 55 40 = some (.bipush 48, 2) := by unfold zzOp; rw [zm_55]; decide +kernel
theorem zo_55_42 : zzOp 55 42 = some (.isub, 1) := by unfold zzOp; rw [zm_55]; decide +kernel
theorem zo_55_43 : zzOp 55 43 = some (.istore_n 1, 1) := by unfold zzOp; rw [zm_55]; decide +kernel
theorem zo_55_44 : zzOp 55 44 = some (.aload_n 0, 1) := by unfold zzOp; rw [zm_55]; decide +kernel
theorem zo_55_45 : zzOp 55 45 = some (.dup, 1) := by unfold zzOp; rw [zm_55]; decide +kernel
theorem zo_55_46 : zzOp 55 46 = some (.getfield 30, 3) := by unfold zzOp; rw [zm_55]; decide +kernel
theorem zo_55_49 : zzOp 55 49 = some (.iconst 1, 1) := by unfold zzOp; rw [zm_55]; decide +kernel
theorem zo_55_50 : zzOp 55 50 = some (.iadd, 1) := by unfold zzOp; rw [zm_55]; decide +kernel
theorem zo_55_51 : zzOp 55 51 = some (.putfield 30, 3) := by unfold zzOp; rw [zm_55]; decide +kernel
theorem zo_55_54 : zzOp 55 54 = some (.goto (-52), 3) := by unfold zzOp; rw [zm_55]; decide +kernel
theorem zo_55_57 : zzOp 55 57 = some (.aload_n 0, 1) := by unfold zzOp; rw [zm_55]; decide +kernel
theorem zo_55_58 : zzOp 55 58 = some (.iload_n 1, 1) := by unfold zzOp; rw [zm_55]; decide +kernel
theorem zo_55_59 : zzOp 55 59 = some (.putfield 51, 3) := by unfold zzOp; rw [zm_55]; decide +kernel
theorem zo_55_62 : zzOp 55 62 = some (.aload_n 0, 1) := by unfold zzOp; rw [zm_55]; decide +kernel
theorem zo_55_63 : zzOp 55 63 = some (.getfield 30, 3) := by unfold zzOp; rw [zm_55]; decide +kernel
theorem zo_55_66 : zzOp 55 66 = some (.aload_n 0, 1) := by unfold zzOp; rw [zm_55]; decide +kernel
theorem zo_55_67 : zzOp 55 67 = some (.getfield 82, 3) := by unfold zzOp; rw [zm_55]; decide +kernel
theorem zo_55_70 : zzOp 55 70 = some (.isub, 1) := by unfold zzOp; rw [zm_55]; decide +kernel
theorem zo_55_71 : zzOp 55 71 = some (.iconst 4, 1) := by unfold zzOp; rw [zm_55]; decide +kernel
theorem zo_55_72 : zzOp 55 72 = some (.if_icmp .le 7, 3) := by unfold zzOp; rw [zm_55]; decide +kernel
theorem zo_55_75 : zzOp 55 75 = some (.aload_n 0, 1) := by unfold zzOp; rw [zm_55]; decide +kernel
theorem zo_55_76 : zzOp 55 76 = some (.invokevirtual 54, 3) := by unfold zzOp; rw [zm_55]; decide +kernel
theorem zo_55_79 : zzOp 55 79 = some (.return_, 1) := by unfold zzOp; rw [zm_55]; decide +kernel
theorem zf_55_19 : zzGet zzFL (zzM 55).2.2.2.2.1 19 = some (2, 2) := by rw [zm_55]; decide +kernel
theorem zf_55_30 : zzGet zzFL (zzM 55).2.2.2.2.1 30 = some (2, 4) := by rw [zm_55]; decide +kernel
theorem zf_55_51 : zzGet zzFL (zzM 55).2.2.2.2.1 51 = some (2, 5) := by rw [zm_55]; decide +kernel
theorem zf_55_82 : zzGet zzFL (zzM 55).2.2.2.2.1 82 = some (2, 3) := by rw [zm_55]; decide +kernel
theorem zl_55_54 : zzGet zzML (zzM 55).2.2.2.2.1 54 = some (2, 50) := by rw [zm_55]; decide +kernel
theorem zl_55_85 : zzGet zzML (zzM 55).2.2.2.2.1 85 = some (2, 57) := by rw [zm_55]; decide +kernel
theorem zl_55_98 : zzGet zzML (zzM 55).2.2.2.2.1 98 = some (0, 60) := by rw [zm_55]; decide +kernel
theorem zm_56 : zzM 56 = (yX2_advanceSign, cX2_advanceSign, 2, none, 2, 2, 1, zzc_56) := rfl
theorem zr_56 : (zzM 56).2.2.2.1 = none := by rw [zm_56]
theorem zo_56_0 : zzOp 56 0 = some (.aload_n 0, 1) := by unfold zzOp; rw [zm_56]; decide +kernel
theorem zo_56_1 : zzOp 56 1 = some (.dup, 1) := by unfold zzOp; rw [zm_56]; decide +kernel
theorem zo_56_2 : zzOp 56 2 = some (.getfield 30, 3) := by unfold zzOp; rw [zm_56]; decide +kernel
theorem zo_56_5 : zzOp 56 5 = some (.iconst 1, 1) := by unfold zzOp; rw [zm_56]; decide +kernel
theorem zo_56_6 : zzOp 56 6 = some (.iadd, 1) := by unfold zzOp; rw [zm_56]; decide +kernel
theorem zo_56_7 : zzOp 56 7 = some (.putfield 30, 3) := by unfold zzOp; rw [zm_56]; decide +kernel
theorem zo_56_10 : zzOp 56 10 = some (.iload_n 1, 1) := by unfold zzOp; rw [zm_56]; decide +kernel
theorem zo_56_11 : zzOp 56 11 = some (.tableswitch 113 40 61 #[101, 101, 101, 101, 113, 101, 113, 113, 113, 113, 113, 113, 113, 113, 113, 113, 113, 113, 113, 101, 101, 101], 101) := by unfold zzOp; rw [zm_56]; decide +kernel
theorem zo_56_112 : zzOp 56 112 = some (.aload_n 0, 1) := by unfold zzOp; rw [zm_56]; decide +kernel
theorem zo_56_113 : zzOp 56 113 = some (.sipush 11000, 3) := by unfold zzOp; rw [zm_56]; decide +kernel
theorem zo_56_116 : zzOp 56 116 = some (.iload_n 1, 1) := by unfold zzOp; rw [zm_56]; decide +kernel
theorem zo_56_117 : zzOp 56 117 = some (.iadd, 1) := by unfold zzOp; rw [zm_56]; decide +kernel
theorem zo_56_118 : zzOp 56 118 = some (.putfield 51, 3) := by unfold zzOp; rw [zm_56]; decide +kernel
theorem zo_56_121 : zzOp 56 121 = some (.goto 7, 3) := by unfold zzOp; rw [zm_56]; decide +kernel
theorem zo_56_124 : zzOp 56 124 = some (.aload_n 0, 1) := by unfold zzOp; rw [zm_56]; decide +kernel
theorem zo_56_125 : zzOp 56 125 = some (.invokevirtual 54, 3) := by unfold zzOp; rw [zm_56]; decide +kernel
theorem zo_56_128 : zzOp 56 128 = some (.return_, 1) := by unfold zzOp; rw [zm_56]; decide +kernel
theorem zf_56_30 : zzGet zzFL (zzM 56).2.2.2.2.1 30 = some (2, 4) := by rw [zm_56]; decide +kernel
theorem zf_56_51 : zzGet zzFL (zzM 56).2.2.2.2.1 51 = some (2, 5) := by rw [zm_56]; decide +kernel
theorem zl_56_54 : zzGet zzML (zzM 56).2.2.2.2.1 54 = some (2, 50) := by rw [zm_56]; decide +kernel
theorem zm_57 : zzM 57 = (yX2_byteAt, cX2_byteAt, 2, (some .int), 2, 2, 1, zzc_57) := rfl
theorem zr_57 : (zzM 57).2.2.2.1 = (some .int) := by rw [zm_57]
theorem zo_57_0 : zzOp 57 0 = some (.iload_n 1, 1) := by unfold zzOp; rw [zm_57]; decide +kernel
theorem zo_57_1 : zzOp 57 1 = some (.ifCond .lt 29, 3) := by unfold zzOp; rw [zm_57]; decide +kernel
theorem zo_57_4 : zzOp 57 4 = some (.iload_n 1, 1) := by unfold zzOp; rw [zm_57]; decide +kernel
theorem zo_57_5 : zzOp 57 5 = some (.aload_n 0, 1) := by unfold zzOp; rw [zm_57]; decide +kernel
theorem zo_57_6 : zzOp 57 6 = some (.getfield 19, 3) := by unfold zzOp; rw [zm_57]; decide +kernel
theorem zo_57_9 : zzOp 57 9 = some (.if_icmp .ge 21, 3) := by unfold zzOp; rw [zm_57]; decide +kernel
theorem zo_57_12 : zzOp 57 12 = some (.iload_n 1, 1) := by unfold zzOp; rw [zm_57]; decide +kernel
theorem zo_57_13 : zzOp 57 13 = some (.aload_n 0, 1) := by unfold zzOp; rw [zm_57]; decide +kernel
theorem zo_57_14 : zzOp 57 14 = some (.getfield 15, 3) := by unfold zzOp; rw [zm_57]; decide +kernel
theorem zo_57_17 : zzOp 57 17 = some (.arraylength, 1) := by unfold zzOp; rw [zm_57]; decide +kernel
theorem zo_57_18 : zzOp 57 18 = some (.if_icmp .ge 12, 3) := by unfold zzOp; rw [zm_57]; decide +kernel
theorem zo_57_21 : zzOp 57 21 = some (.aload_n 0, 1) := by unfold zzOp; rw [zm_57]; decide +kernel
theorem zo_57_22 : zzOp 57 22 = some (.getfield 15, 3) := by unfold zzOp; rw [zm_57]; decide +kernel
theorem zo_57_25 : zzOp 57 25 = some (.iload_n 1, 1) := by unfold zzOp; rw [zm_57]; decide +kernel
theorem zo_57_26 : zzOp 57 26 = some (.iaload, 1) := by unfold zzOp; rw [zm_57]; decide +kernel
theorem zo_57_27 : zzOp 57 27 = some (.goto 4, 3) := by unfold zzOp; rw [zm_57]; decide +kernel
theorem zo_57_30 : zzOp 57 30 = some (.iconst (-1), 1) := by unfold zzOp; rw [zm_57]; decide +kernel
theorem zo_57_31 : zzOp 57 31 = some (.ireturn, 1) := by unfold zzOp; rw [zm_57]; decide +kernel
theorem zf_57_15 : zzGet zzFL (zzM 57).2.2.2.2.1 15 = some (2, 1) := by rw [zm_57]; decide +kernel
theorem zf_57_19 : zzGet zzFL (zzM 57).2.2.2.2.1 19 = some (2, 2) := by rw [zm_57]; decide +kernel
theorem zm_58 : zzM 58 = (yX2_isBlank, cX2_isBlank, 1, (some .boolean), 2, 1, 0, zzc_58) := rfl
theorem zr_58 : (zzM 58).2.2.2.1 = (some .boolean) := by rw [zm_58]
theorem zo_58_0 : zzOp 58 0 = some (.iload_n 0, 1) := by unfold zzOp; rw [zm_58]; decide +kernel
theorem zo_58_1 : zzOp 58 1 = some (.bipush 32, 2) := by unfold zzOp; rw [zm_58]; decide +kernel
theorem zo_58_3 : zzOp 58 3 = some (.if_icmp .eq 9, 3) := by unfold zzOp; rw [zm_58]; decide +kernel
theorem zo_58_6 : zzOp 58 6 = some (.iload_n 0, 1) := by unfold zzOp; rw [zm_58]; decide +kernel
theorem zo_58_7 : zzOp 58 7 = some (.bipush 10, 2) := by unfold zzOp; rw [zm_58]; decide +kernel
theorem zo_58_9 : zzOp 58 9 = some (.if_icmp .ne 7, 3) := by unfold zzOp; rw [zm_58]; decide +kernel
theorem zo_58_12 : zzOp 58 12 = some (.iconst 1, 1) := by unfold zzOp; rw [zm_58]; decide +kernel
theorem zo_58_13 : zzOp 58 13 = some (.goto 4, 3) := by unfold zzOp; rw [zm_58]; decide +kernel
theorem zo_58_16 : zzOp 58 16 = some (.iconst 0, 1) := by unfold zzOp; rw [zm_58]; decide +kernel
theorem zo_58_17 : zzOp 58 17 = some (.ireturn, 1) := by unfold zzOp; rw [zm_58]; decide +kernel
theorem zm_59 : zzM 59 = (yX2_isLetter, cX2_isLetter, 1, (some .boolean), 2, 1, 0, zzc_59) := rfl
theorem zr_59 : (zzM 59).2.2.2.1 = (some .boolean) := by rw [zm_59]
theorem zo_59_0 : zzOp 59 0 = some (.iload_n 0, 1) := by unfold zzOp; rw [zm_59]; decide +kernel
theorem zo_59_1 : zzOp 59 1 = some (.bipush 97, 2) := by unfold zzOp; rw [zm_59]; decide +kernel
theorem zo_59_3 : zzOp 59 3 = some (.if_icmp .lt 13, 3) := by unfold zzOp; rw [zm_59]; decide +kernel
theorem zo_59_6 : zzOp 59 6 = some (.iload_n 0, 1) := by unfold zzOp; rw [zm_59]; decide +kernel
theorem zo_59_7 : zzOp 59 7 = some (.bipush 122, 2) := by unfold zzOp; rw [zm_59]; decide +kernel
theorem zo_59_9 : zzOp 59 9 = some (.if_icmp .gt 7, 3) := by unfold zzOp; rw [zm_59]; decide +kernel
theorem zo_59_12 : zzOp 59 12 = some (.iconst 1, 1) := by unfold zzOp; rw [zm_59]; decide +kernel
theorem zo_59_13 : zzOp 59 13 = some (.goto 4, 3) := by unfold zzOp; rw [zm_59]; decide +kernel
theorem zo_59_16 : zzOp 59 16 = some (.iconst 0, 1) := by unfold zzOp; rw [zm_59]; decide +kernel
theorem zo_59_17 : zzOp 59 17 = some (.ireturn, 1) := by unfold zzOp; rw [zm_59]; decide +kernel
theorem zm_60 : zzM 60 = (yX2_isDigit, cX2_isDigit, 1, (some .boolean), 2, 1, 0, zzc_60) := rfl
theorem zr_60 : (zzM 60).2.2.2.1 = (some .boolean) := by rw [zm_60]
theorem zo_60_0 : zzOp 60 0 = some (.iload_n 0, 1) := by unfold zzOp; rw [zm_60]; decide +kernel
theorem zo_60_1 : zzOp 60 1 = some (.bipush 48, 2) := by unfold zzOp; rw [zm_60]; decide +kernel
theorem zo_60_3 : zzOp 60 3 = some (.if_icmp .lt 13, 3) := by unfold zzOp; rw [zm_60]; decide +kernel
theorem zo_60_6 : zzOp 60 6 = some (.iload_n 0, 1) := by unfold zzOp; rw [zm_60]; decide +kernel
theorem zo_60_7 : zzOp 60 7 = some (.bipush 57, 2) := by unfold zzOp; rw [zm_60]; decide +kernel
theorem zo_60_9 : zzOp 60 9 = some (.if_icmp .gt 7, 3) := by unfold zzOp; rw [zm_60]; decide +kernel
theorem zo_60_12 : zzOp 60 12 = some (.iconst 1, 1) := by unfold zzOp; rw [zm_60]; decide +kernel
theorem zo_60_13 : zzOp 60 13 = some (.goto 4, 3) := by unfold zzOp; rw [zm_60]; decide +kernel
theorem zo_60_16 : zzOp 60 16 = some (.iconst 0, 1) := by unfold zzOp; rw [zm_60]; decide +kernel
theorem zo_60_17 : zzOp 60 17 = some (.ireturn, 1) := by unfold zzOp; rw [zm_60]; decide +kernel
theorem zm_62 : zzM 62 = (yX3_plan, cX3_plan, 5, none, 3, 3, 1, zzc_62) := rfl
theorem zr_62 : (zzM 62).2.2.2.1 = none := by rw [zm_62]
theorem zo_62_0 : zzOp 62 0 = some (.aload_n 0, 1) := by unfold zzOp; rw [zm_62]; decide +kernel
theorem zo_62_1 : zzOp 62 1 = some (.iload_n 2, 1) := by unfold zzOp; rw [zm_62]; decide +kernel
theorem zo_62_2 : zzOp 62 2 = some (.putfield 24, 3) := by unfold zzOp; rw [zm_62]; decide +kernel
theorem zo_62_5 : zzOp 62 5 = some (.aload_n 0, 1) := by unfold zzOp; rw [zm_62]; decide +kernel
theorem zo_62_6 : zzOp 62 6 = some (.aload_n 1, 1) := by unfold zzOp; rw [zm_62]; decide +kernel
theorem zo_62_7 : zzOp 62 7 = some (.getfield 28, 3) := by unfold zzOp; rw [zm_62]; decide +kernel
theorem zo_62_10 : zzOp 62 10 = some (.putfield 33, 3) := by unfold zzOp; rw [zm_62]; decide +kernel
theorem zo_62_13 : zzOp 62 13 = some (.aload_n 0, 1) := by unfold zzOp; rw [zm_62]; decide +kernel
theorem zo_62_14 : zzOp 62 14 = some (.aload_n 1, 1) := by unfold zzOp; rw [zm_62]; decide +kernel
theorem zo_62_15 : zzOp 62 15 = some (.getfield 34, 3) := by unfold zzOp; rw [zm_62]; decide +kernel
theorem zo_62_18 : zzOp 62 18 = some (.putfield 37, 3) := by unfold zzOp; rw [zm_62]; decide +kernel
theorem zo_62_21 : zzOp 62 21 = some (.iconst 0, 1) := by unfold zzOp; rw [zm_62]; decide +kernel
theorem zo_62_22 : zzOp 62 22 = some (.istore_n 3, 1) := by unfold zzOp; rw [zm_62]; decide +kernel
theorem zo_62_23 : zzOp 62 23 = some (.iload_n 3, 1) := by unfold zzOp; rw [zm_62]; decide +kernel
theorem zo_62_24 : zzOp 62 24 = some (.iload_n 2, 1) := by unfold zzOp; rw [zm_62]; decide +kernel
theorem zo_62_25 : zzOp 62 25 = some (.if_icmp .ge 53, 3) := by unfold zzOp; rw [zm_62]; decide +kernel
theorem zo_62_28 : zzOp 62 28 = some (.iconst 0, 1) := by unfold zzOp; rw [zm_62]; decide +kernel
theorem zo_62_29 : zzOp 62 29 = some (.istore 4, 2) := by unfold zzOp; rw [zm_62]; decide +kernel
theorem zo_62_31 : zzOp 62 31 = some (.iload 4, 2) := by unfold zzOp; rw [zm_62]; decide +kernel
theorem zo_62_33 : zzOp 62 33 = some (.aload_n 0, 1) := by unfold zzOp; rw [zm_62]; decide +kernel
theorem zo_62_34 : zzOp 62 34 = some (.getfield 33, 3) := by unfold zzOp; rw [zm_62]; decide +kernel
theorem zo_62_37 : zzOp 62 37 = some (.if_icmp .ge 35, 3) := by unfold zzOp; rw [zm_62]; decide +kernel
theorem zo_62_40 : zzOp 62 40 = some (.aload_n 0, 1) := by unfold zzOp; rw [zm_62]; decide +kernel
theorem zo_62_41 : zzOp 62 41 = some (.getfield 9, 3) := by unfold zzOp; rw [zm_62]; decide +kernel
theorem zo_62_44 : zzOp 62 44 = some (.iload_n 3, 1) := by unfold zzOp; rw [zm_62]; decide +kernel
theorem zo_62_45 : zzOp 62 45 = some (.bipush 8, 2) := by unfold zzOp; rw [zm_62]; decide +kernel
theorem zo_62_47 : zzOp 62 47 = some (.imul, 1) := by unfold zzOp; rw [zm_62]; decide +kernel
theorem zo_62_48 : zzOp 62 48 = some (.iload 4, 2) := by unfold zzOp; rw [zm_62]; decide +kernel
theorem zo_62_50 : zzOp 62 50 = some (.iadd, 1) := by unfold zzOp; rw [zm_62]; decide +kernel
theorem zo_62_51 : zzOp 62 51 = some (.aload_n 1, 1) := by unfold zzOp; rw [zm_62]; decide +kernel
theorem zo_62_52 : zzOp 62 52 = some (.iload 4, 2) := by unfold zzOp; rw [zm_62]; decide +kernel
theorem zo_62_54 : zzOp 62 54 = some (.aload_n 1, 1) := by unfold zzOp; rw [zm_62]; decide +kernel
theorem zo_62_55 : zzOp 62 55 = some (.getfield 38, 3) := by unfold zzOp; rw [zm_62]; decide +kernel
theorem zo_62_58 : zzOp 62 58 = some (.iload_n 3, 1) := by unfold zzOp; rw [zm_62]; decide +kernel
theorem zo_62_59 : zzOp 62 59 = some (.iadd, 1) := by unfold zzOp; rw [zm_62]; decide +kernel
theorem zo_62_60 : zzOp 62 60 = some (.invokevirtual 41, 3) := by unfold zzOp; rw [zm_62]; decide +kernel
theorem zo_62_63 : zzOp 62 63 = some (.invokestatic 44, 3) := by unfold zzOp; rw [zm_62]; decide +kernel
theorem zo_62_66 : zzOp 62 66 = some (.iinc 4 1, 3) := by unfold zzOp; rw [zm_62]; decide +kernel
theorem zo_62_69 : zzOp 62 69 = some (.goto (-38), 3) := by unfold zzOp; rw [zm_62]; decide +kernel
theorem zo_62_72 : zzOp 62 72 = some (.iinc 3 1, 3) := by unfold zzOp; rw [zm_62]; decide +kernel
theorem zo_62_75 : zzOp 62 75 = some (.goto (-52), 3) := by unfold zzOp; rw [zm_62]; decide +kernel
theorem zo_62_78 : zzOp 62 78 = some (.return_, 1) := by unfold zzOp; rw [zm_62]; decide +kernel
theorem zf_62_9 : zzGet zzFL (zzM 62).2.2.2.2.1 9 = some (3, 0) := by rw [zm_62]; decide +kernel
theorem zf_62_24 : zzGet zzFL (zzM 62).2.2.2.2.1 24 = some (3, 4) := by rw [zm_62]; decide +kernel
theorem zf_62_28 : zzGet zzFL (zzM 62).2.2.2.2.1 28 = some (0, 4) := by rw [zm_62]; decide +kernel
theorem zf_62_33 : zzGet zzFL (zzM 62).2.2.2.2.1 33 = some (3, 5) := by rw [zm_62]; decide +kernel
theorem zf_62_34 : zzGet zzFL (zzM 62).2.2.2.2.1 34 = some (0, 2) := by rw [zm_62]; decide +kernel
theorem zf_62_37 : zzGet zzFL (zzM 62).2.2.2.2.1 37 = some (3, 6) := by rw [zm_62]; decide +kernel
theorem zf_62_38 : zzGet zzFL (zzM 62).2.2.2.2.1 38 = some (0, 1) := by rw [zm_62]; decide +kernel
theorem zl_62_41 : zzGet zzML (zzM 62).2.2.2.2.1 41 = some (2, 22) := by rw [zm_62]; decide +kernel
theorem zl_62_44 : zzGet zzML (zzM 62).2.2.2.2.1 44 = some (1, 126) := by rw [zm_62]; decide +kernel
theorem zm_63 : zzM 63 = (yX3_sick, cX3_sick, 4, (some .int), 3, 2, 1, zzc_63) := rfl
theorem zr_63 : (zzM 63).2.2.2.1 = (some .int) := by rw [zm_63]
theorem zo_63_0 : zzOp 63 0 = some (.iconst 0, 1) := by unfold zzOp; rw [zm_63]; decide +kernel
theorem zo_63_1 : zzOp 63 1 = some (.istore_n 2, 1) := by unfold zzOp; rw [zm_63]; decide +kernel
theorem zo_63_2 : zzOp 63 2 = some (.aload_n 0, 1) := by unfold zzOp; rw [zm_63]; decide +kernel
theorem zo_63_3 : zzOp 63 3 = some (.getfield 15, 3) := by unfold zzOp; rw [zm_63]; decide +kernel
theorem zo_63_6 : zzOp 63 6 = some (.iconst 0, 1) := by unfold zzOp; rw [zm_63]; decide +kernel
theorem zo_63_7 : zzOp 63 7 = some (.invokestatic 48, 3) := by unfold zzOp; rw [zm_63]; decide +kernel
theorem zo_63_10 : zzOp 63 10 = some (.aload_n 0, 1) := by unfold zzOp; rw [zm_63]; decide +kernel
theorem zo_63_11 : zzOp 63 11 = some (.getfield 21, 3) := by unfold zzOp; rw [zm_63]; decide +kernel
theorem zo_63_14 : zzOp 63 14 = some (.iconst 0, 1) := by unfold zzOp; rw [zm_63]; decide +kernel
theorem zo_63_15 : zzOp 63 15 = some (.invokestatic 48, 3) := by unfold zzOp; rw [zm_63]; decide +kernel
theorem zo_63_18 : zzOp 63 18 = some (.aload_n 0, 1) := by unfold zzOp; rw [zm_63]; decide +kernel
theorem zo_63_19 : zzOp 63 19 = some (.getfield 18, 3) := by unfold zzOp; rw [zm_63]; decide +kernel
theorem zo_63_22 : zzOp 63 22 = some (.iconst (-1), 1) := by unfold zzOp; rw [zm_63]; decide +kernel
theorem zo_63_23 : zzOp 63 23 = some (.invokestatic 48, 3) := by unfold zzOp; rw [zm_63]; decide +kernel
theorem zo_63_26 : zzOp 63 26 = some (.iconst 0, 1) := by unfold zzOp; rw [zm_63]; decide +kernel
theorem zo_63_27 : zzOp 63 27 = some (.istore_n 3, 1) := by unfold zzOp; rw [zm_63]; decide +kernel
theorem zo_63_28 : zzOp 63 28 = some (.iload_n 3, 1) := by unfold zzOp; rw [zm_63]; decide +kernel
theorem zo_63_29 : zzOp 63 29 = some (.aload_n 0, 1) := by unfold zzOp; rw [zm_63]; decide +kernel
theorem zo_63_30 : zzOp 63 30 = some (.getfield 24, 3) := by unfold zzOp; rw [zm_63]; decide +kernel
theorem zo_63_33 : zzOp 63 33 = some (.if_icmp .ge 30, 3) := by unfold zzOp; rw [zm_63]; decide +kernel
theorem zo_63_36 : zzOp 63 36 = some (.iload_n 2, 1) := by unfold zzOp; rw [zm_63]; decide +kernel
theorem zo_63_37 : zzOp 63 37 = some (.aload_n 0, 1) := by unfold zzOp; rw [zm_63]; decide +kernel
theorem zo_63_38 : zzOp 63 38 = some (.iload_n 3, 1) := by unfold zzOp; rw [zm_63]; decide +kernel
theorem zo_63_39 : zzOp 63 39 = some (.invokevirtual 52, 3) := by unfold zzOp; rw [zm_63]; decide +kernel
theorem zo_63_42 : zzOp 63 42 = some (.iadd, 1) := by unfold zzOp; rw [zm_63]; decide +kernel
theorem zo_63_43 : zzOp 63 43 = some (.istore_n 2, 1) := by unfold zzOp; rw [zm_63]; decide +kernel
theorem zo_63_44 : zzOp 63 44 = some (.iload_n 3, 1) := by unfold zzOp; rw [zm_63]; decide +kernel
theorem zo_63_45 : zzOp 63 45 = some (.iload_n 1, 1) := by unfold zzOp; rw [zm_63]; decide +kernel
theorem zo_63_46 : zzOp 63 46 = some (.if_icmp .ne 11, 3) := by unfold zzOp; rw [zm_63]; decide +kernel
theorem zo_63_49 : zzOp 63 49 = some (.aload_n 0, 1) := by unfold zzOp; rw [zm_63]; decide +kernel
theorem zo_63_50 : zzOp 63 50 = some (.getfield 15, 3) := by unfold zzOp; rw [zm_63]; decide +kernel
theorem zo_63_53 : zzOp 63 53 = some (.iconst 0, 1) := by unfold zzOp; rw [zm_63]; decide +kernel
theorem zo_63_54 : zzOp 63 54 = some (.invokestatic 48, 3) := by unfold zzOp; rw [zm_63]; decide +kernel
theorem zo_63_57 : zzOp 63 57 = some (.iinc 3 1, 3) := by unfold zzOp; rw [zm_63]; decide +kernel
theorem zo_63_60 : zzOp 63 60 = some (.goto (-32), 3) := by unfold zzOp; rw [zm_63]; decide +kernel
theorem zo_63_63 : zzOp 63 63 = some (.iload_n 2, 1) := by unfold zzOp; rw [zm_63]; decide +kernel
theorem zo_63_64 : zzOp 63 64 = some (.ireturn, 1) := by unfold zzOp; rw [zm_63]; decide +kernel
theorem zf_63_15 : zzGet zzFL (zzM 63).2.2.2.2.1 15 = some (3, 1) := by rw [zm_63]; decide +kernel
theorem zf_63_18 : zzGet zzFL (zzM 63).2.2.2.2.1 18 = some (3, 2) := by rw [zm_63]; decide +kernel
theorem zf_63_21 : zzGet zzFL (zzM 63).2.2.2.2.1 21 = some (3, 3) := by rw [zm_63]; decide +kernel
theorem zf_63_24 : zzGet zzFL (zzM 63).2.2.2.2.1 24 = some (3, 4) := by rw [zm_63]; decide +kernel
theorem zl_63_48 : zzGet zzML (zzM 63).2.2.2.2.1 48 = some (1, 128) := by rw [zm_63]; decide +kernel
theorem zl_63_52 : zzGet zzML (zzM 63).2.2.2.2.1 52 = some (2, 64) := by rw [zm_63]; decide +kernel
theorem zm_64 : zzM 64 = (yX3_sickIn, cX3_sickIn, 6, (some .int), 3, 2, 1, zzc_64) := rfl
theorem zr_64 : (zzM 64).2.2.2.1 = (some .int) := by rw [zm_64]
theorem zo_64_0 : zzOp 64 0 = some (.iconst 0, 1) := by unfold zzOp; rw [zm_64]; decide +kernel
theorem zo_64_1 : zzOp 64 1 = some (.istore_n 2, 1) := by unfold zzOp; rw [zm_64]; decide +kernel
theorem zo_64_2 : zzOp 64 2 = some (.iconst 0, 1) := by unfold zzOp; rw [zm_64]; decide +kernel
theorem zo_64_3 : zzOp 64 3 = some (.istore_n 3, 1) := by unfold zzOp; rw [zm_64]; decide +kernel
theorem zo_64_4 : zzOp 64 4 = some (.iload_n 3, 1) := by unfold zzOp; rw [zm_64]; decide +kernel
theorem zo_64_5 : zzOp 64 5 = some (.aload_n 0, 1) := by unfold zzOp; rw [zm_64]; decide +kernel
theorem zo_64_6 : zzOp 64 6 = some (.getfield 33, 3) := by unfold zzOp; rw [zm_64]; decide +kernel
theorem zo_64_9 : zzOp 64 9 = some (.if_icmp .ge 82, 3) := by unfold zzOp; rw [zm_64]; decide +kernel
theorem zo_64_12 : zzOp 64 12 = some (.aload_n 0, 1) := by unfold zzOp; rw [zm_64]; decide +kernel
theorem zo_64_13 : zzOp 64 13 = some (.getfield 15, 3) := by unfold zzOp; rw [zm_64]; decide +kernel
theorem zo_64_16 : zzOp 64 16 = some (.iload_n 3, 1) := by unfold zzOp; rw [zm_64]; decide +kernel
theorem zo_64_17 : zzOp 64 17 = some (.invokestatic 56, 3) := by unfold zzOp; rw [zm_64]; decide +kernel
theorem zo_64_20 : zzOp 64 20 = some (.aload_n 0, 1) := by unfold zzOp; rw [zm_64]; decide +kernel
theorem zo_64_21 : zzOp 64 21 = some (.getfield 9, 3) := by unfold zzOp; rw [zm_64]; decide +kernel
theorem zo_64_24 : zzOp 64 24 = some (.iload_n 1, 1) := by unfold zzOp; rw [zm_64]; decide +kernel
theorem zo_64_25 : zzOp 64 25 = some (.bipush 8, 2) := by unfold zzOp; rw [zm_64]; decide +kernel
theorem zo_64_27 : zzOp 64 27 = some (.imul, 1) := by unfold zzOp; rw [zm_64]; decide +kernel
theorem zo_64_28 : zzOp 64 28 = some (.iload_n 3, 1) := by unfold zzOp; rw [zm_64]; decide +kernel
theorem zo_64_29 : zzOp 64 29 = some (.iadd, 1) := by unfold zzOp; rw [zm_64]; decide +kernel
theorem zo_64_30 : zzOp 64 30 = some (.invokestatic 56, 3) := by unfold zzOp; rw [zm_64]; decide +kernel
theorem zo_64_33 : zzOp 64 33 = some (.iadd, 1) := by unfold zzOp; rw [zm_64]; decide +kernel
theorem zo_64_34 : zzOp 64 34 = some (.istore 4, 2) := by unfold zzOp; rw [zm_64]; decide +kernel
theorem zo_64_36 : zzOp 64 36 = some (.iload 4, 2) := by unfold zzOp; rw [zm_64]; decide +kernel
theorem zo_64_38 : zzOp 64 38 = some (.aload_n 0, 1) := by unfold zzOp; rw [zm_64]; decide +kernel
theorem zo_64_39 : zzOp 64 39 = some (.getfield 37, 3) := by unfold zzOp; rw [zm_64]; decide +kernel
theorem zo_64_42 : zzOp 64 42 = some (.if_icmp .le 7, 3) := by unfold zzOp; rw [zm_64]; decide +kernel
theorem zo_64_45 : zzOp 64 45 = some (.iconst 1, 1) := by unfold zzOp; rw [zm_64]; decide +kernel
theorem zo_64_46 : zzOp 64 46 = some (.goto 4, 3) := by unfold zzOp; rw [zm_64]; decide +kernel
theorem zo_64_49 : zzOp 64 49 = some (.iconst 0, 1) := by unfold zzOp; rw [zm_64]; decide +kernel
theorem zo_64_50 : zzOp 64 50 = some (.istore 5, 2) := by unfold zzOp; rw [zm_64]; decide +kernel
theorem zo_64_52 : zzOp 64 52 = some (.aload_n 0, 1) := by unfold zzOp; rw [zm_64]; decide +kernel
theorem zo_64_53 : zzOp 64 53 = some (.getfield 15, 3) := by unfold zzOp; rw [zm_64]; decide +kernel
theorem zo_64_56 : zzOp 64 56 = some (.iload_n 3, 1) := by unfold zzOp; rw [zm_64]; decide +kernel
theorem zo_64_57 : zzOp 64 57 = some (.iload 5, 2) := by unfold zzOp; rw [zm_64]; decide +kernel
theorem zo_64_59 : zzOp 64 59 = some (.ifCond .eq 7, 3) := by unfold zzOp; rw [zm_64]; decide +kernel
theorem zo_64_62 : zzOp 64 62 = some (.iconst 0, 1) := by unfold zzOp; rw [zm_64]; decide +kernel
theorem zo_64_63 : zzOp 64 63 = some (.goto 5, 3) := by unfold zzOp; rw [zm_64]; decide +kernel
theorem zo_64_66 : zzOp 64 66 = some (.iload 4, 2) := by unfold zzOp; rw [zm_64]; decide +kernel
theorem zo_64_68 : zzOp 64 68 = some (.invokestatic 44, 3) := by unfold zzOp; rw [zm_64]; decide +kernel
theorem zo_64_71 : zzOp 64 71 = some (.iload 5, 2) := by unfold zzOp; rw [zm_64]; decide +kernel
theorem zo_64_73 : zzOp 64 73 = some (.ifCond .eq 12, 3) := by unfold zzOp; rw [zm_64]; decide +kernel
theorem zo_64_76 : zzOp 64 76 = some (.iinc 2 1, 3) := by unfold zzOp; rw [zm_64]; decide +kernel
theorem zo_64_79 : zzOp 64 79 = some (.aload_n 0, 1) := by unfold zzOp; rw [zm_64]; decide +kernel
theorem zo_64_80 : zzOp 64 80 = some (.iload_n 3, 1) := by unfold zzOp; rw [zm_64]; decide +kernel
theorem zo_64_81 : zzOp 64 81 = some (.iload_n 1, 1) := by unfold zzOp; rw [zm_64]; decide +kernel
theorem zo_64_82 : zzOp 64 82 = some (.invokevirtual 60, 3) := by unfold zzOp; rw [zm_64]; decide +kernel
theorem zo_64_85 : zzOp 64 85 = some (.iinc 3 1, 3) := by unfold zzOp; rw [zm_64]; decide +kernel
theorem zo_64_88 : zzOp 64 88 = some (.goto (-84), 3) := by unfold zzOp; rw [zm_64]; decide +kernel
theorem zo_64_91 : zzOp 64 91 = some (.iload_n 2, 1) := by unfold zzOp; rw [zm_64]; decide +kernel
theorem zo_64_92 : zzOp 64 92 = some (.ireturn, 1) := by unfold zzOp; rw [zm_64]; decide +kernel
theorem zf_64_9 : zzGet zzFL (zzM 64).2.2.2.2.1 9 = some (3, 0) := by rw [zm_64]; decide +kernel
theorem zf_64_15 : zzGet zzFL (zzM 64).2.2.2.2.1 15 = some (3, 1) := by rw [zm_64]; decide +kernel
theorem zf_64_33 : zzGet zzFL (zzM 64).2.2.2.2.1 33 = some (3, 5) := by rw [zm_64]; decide +kernel
theorem zf_64_37 : zzGet zzFL (zzM 64).2.2.2.2.1 37 = some (3, 6) := by rw [zm_64]; decide +kernel
theorem zl_64_44 : zzGet zzML (zzM 64).2.2.2.2.1 44 = some (1, 126) := by rw [zm_64]; decide +kernel
theorem zl_64_56 : zzGet zzML (zzM 64).2.2.2.2.1 56 = some (1, 125) := by rw [zm_64]; decide +kernel
theorem zl_64_60 : zzGet zzML (zzM 64).2.2.2.2.1 60 = some (2, 65) := by rw [zm_64]; decide +kernel
theorem zm_65 : zzM 65 = (yX3_noteSick, cX3_noteSick, 3, none, 3, 3, 1, zzc_65) := rfl
theorem zr_65 : (zzM 65).2.2.2.1 = none := by rw [zm_65]
theorem zo_65_0 : zzOp 65 0 = some (.aload_n 0, 1) := by unfold zzOp; rw [zm_65]; decide +kernel
theorem zo_65_1 : zzOp 65 1 = some (.getfield 21, 3) := by unfold zzOp; rw [zm_65]; decide +kernel
theorem zo_65_4 : zzOp 65 4 = some (.iload_n 1, 1) := by unfold zzOp; rw [zm_65]; decide +kernel
theorem zo_65_5 : zzOp 65 5 = some (.invokestatic 56, 3) := by unfold zzOp; rw [zm_65]; decide +kernel
theorem zo_65_8 : zzOp 65 8 = some (.ifCond .ne 12, 3) := by unfold zzOp; rw [zm_65]; decide +kernel
theorem zo_65_11 : zzOp 65 11 = some (.aload_n 0, 1) := by unfold zzOp; rw [zm_65]; decide +kernel
theorem zo_65_12 : zzOp 65 12 = some (.getfield 18, 3) := by unfold zzOp; rw [zm_65]; decide +kernel
theorem zo_65_15 : zzOp 65 15 = some (.iload_n 1, 1) := by unfold zzOp; rw [zm_65]; decide +kernel
theorem zo_65_16 : zzOp 65 16 = some (.iload_n 2, 1) := by unfold zzOp; rw [zm_65]; decide +kernel
theorem zo_65_17 : zzOp 65 17 = some (.invokestatic 44, 3) := by unfold zzOp; rw [zm_65]; decide +kernel
theorem zo_65_20 : zzOp 65 20 = some (.aload_n 0, 1) := by unfold zzOp; rw [zm_65]; decide +kernel
theorem zo_65_21 : zzOp 65 21 = some (.getfield 21, 3) := by unfold zzOp; rw [zm_65]; decide +kernel
theorem zo_65_24 : zzOp 65 24 = some (.iload_n 1, 1) := by unfold zzOp; rw [zm_65]; decide +kernel
theorem zo_65_25 : zzOp 65 25 = some (.aload_n 0, 1) := by unfold zzOp; rw [zm_65]; decide +kernel
theorem zo_65_26 : zzOp 65 26 = some (.getfield 21, 3) := by unfold zzOp; rw [zm_65]; decide +kernel
theorem zo_65_29 : zzOp 65 29 = some (.iload_n 1, 1) := by unfold zzOp; rw [zm_65]; decide +kernel
theorem zo_65_30 : zzOp 65 30 = some (.invokestatic 56, 3) := by unfold zzOp; rw [zm_65]; decide +kernel
theorem zo_65_33 : zzOp 65 33 = some (.iconst 1, 1) := by unfold zzOp; rw [zm_65]; decide +kernel
theorem zo_65_34 : zzOp 65 34 = some (.iadd, 1) := by unfold zzOp; rw [zm_65]; decide +kernel
theorem zo_65_35 : zzOp 65 35 = some (.invokestatic 44, 3) := by unfold zzOp; rw [zm_65]; decide +kernel
theorem zo_65_38 : zzOp 65 38 = some (.return_, 1) := by unfold zzOp; rw [zm_65]; decide +kernel
theorem zf_65_18 : zzGet zzFL (zzM 65).2.2.2.2.1 18 = some (3, 2) := by rw [zm_65]; decide +kernel
theorem zf_65_21 : zzGet zzFL (zzM 65).2.2.2.2.1 21 = some (3, 3) := by rw [zm_65]; decide +kernel
theorem zl_65_44 : zzGet zzML (zzM 65).2.2.2.2.1 44 = some (1, 126) := by rw [zm_65]; decide +kernel
theorem zl_65_56 : zzGet zzML (zzM 65).2.2.2.2.1 56 = some (1, 125) := by rw [zm_65]; decide +kernel
theorem zm_66 : zzM 66 = (yX3_firstSick, cX3_firstSick, 3, (some .int), 3, 1, 1, zzc_66) := rfl
theorem zr_66 : (zzM 66).2.2.2.1 = (some .int) := by rw [zm_66]
theorem zo_66_0 : zzOp 66 0 = some (.iconst (-1), 1) := by unfold zzOp; rw [zm_66]; decide +kernel
theorem zo_66_1 : zzOp 66 1 = some (.istore_n 1, 1) := by unfold zzOp; rw [zm_66]; decide +kernel
theorem zo_66_2 : zzOp 66 2 = some (.iconst 0, 1) := by unfold zzOp; rw [zm_66]; decide +kernel
theorem zo_66_3 : zzOp 66 3 = some (.istore_n 2, 1) := by unfold zzOp; rw [zm_66]; decide +kernel
theorem zo_66_4 : zzOp 66 4 = some (.iload_n 2, 1) := by unfold zzOp; rw [zm_66]; decide +kernel
theorem zo_66_5 : zzOp 66 5 = some (.aload_n 0, 1) := by unfold zzOp; rw [zm_66]; decide +kernel
theorem zo_66_6 : zzOp 66 6 = some (.getfield 33, 3) := by unfold zzOp; rw [zm_66]; decide +kernel
theorem zo_66_9 : zzOp 66 9 = some (.if_icmp .ge 46, 3) := by unfold zzOp; rw [zm_66]; decide +kernel
theorem zo_66_12 : zzOp 66 12 = some (.aload_n 0, 1) := by unfold zzOp; rw [zm_66]; decide +kernel
theorem zo_66_13 : zzOp 66 13 = some (.getfield 21, 3) := by unfold zzOp; rw [zm_66]; decide +kernel
theorem zo_66_16 : zzOp 66 16 = some (.iload_n 2, 1) := by unfold zzOp; rw [zm_66]; decide +kernel
theorem zo_66_17 : zzOp 66 17 = some (.invokestatic 56, 3) := by unfold zzOp; rw [zm_66]; decide +kernel
theorem zo_66_20 : zzOp 66 20 = some (.ifCond .le 29, 3) := by unfold zzOp; rw [zm_66]; decide +kernel
theorem zo_66_23 : zzOp 66 23 = some (.iload_n 1, 1) := by unfold zzOp; rw [zm_66]; decide +kernel
theorem zo_66_24 : zzOp 66 24 = some (.iconst (-1), 1) := by unfold zzOp; rw [zm_66]; decide +kernel
theorem zo_66_25 : zzOp 66 25 = some (.if_icmp .eq 22, 3) := by unfold zzOp; rw [zm_66]; decide +kernel
theorem zo_66_28 : zzOp 66 28 = some (.aload_n 0, 1) := by unfold zzOp; rw [zm_66]; decide +kernel
theorem zo_66_29 : zzOp 66 29 = some (.getfield 18, 3) := by unfold zzOp; rw [zm_66]; decide +kernel
theorem zo_66_32 : zzOp 66 32 = some (.iload_n 2, 1) := by unfold zzOp; rw [zm_66]; decide +kernel
theorem zo_66_33 : zzOp 66 33 = some (.invokestatic 56, 3) := by unfold zzOp; rw [zm_66]; decide +kernel
theorem zo_66_36 : zzOp 66 36 = some (.aload_n 0, 1) := by unfold zzOp; rw [zm_66]; decide +kernel
theorem zo_66_37 : zzOp 66 37 = some (.getfield 18, 3) := by unfold zzOp; rw [zm_66]; decide +kernel
theorem zo_66_40 : zzOp 66 40 = some (.iload_n 1, 1) := by unfold zzOp; rw [zm_66]; decide +kernel
theorem zo_66_41 : zzOp 66 41 = some (.invokestatic 56, 3) := by unfold zzOp; rw [zm_66]; decide +kernel
theorem zo_66_44 : zzOp 66 44 = some (.if_icmp .ge 5, 3) := by unfold zzOp; rw [zm_66]; decide +kernel
theorem zo_66_47 : zzOp 66 47 = some (.iload_n 2, 1) := by unfold zzOp; rw [zm_66]; decide +kernel
theorem zo_66_48 : zzOp 66 48 = some (.istore_n 1, 1) := by unfold zzOp; rw [zm_66]; decide +kernel
theorem zo_66_49 : zzOp 66 49 = some (.iinc 2 1, 3) := by unfold zzOp; rw [zm_66]; decide +kernel
theorem zo_66_52 : zzOp 66 52 = some (.goto (-48), 3) := by unfold zzOp; rw [zm_66]; decide +kernel
theorem zo_66_55 : zzOp 66 55 = some (.iload_n 1, 1) := by unfold zzOp; rw [zm_66]; decide +kernel
theorem zo_66_56 : zzOp 66 56 = some (.ireturn, 1) := by unfold zzOp; rw [zm_66]; decide +kernel
theorem zf_66_18 : zzGet zzFL (zzM 66).2.2.2.2.1 18 = some (3, 2) := by rw [zm_66]; decide +kernel
theorem zf_66_21 : zzGet zzFL (zzM 66).2.2.2.2.1 21 = some (3, 3) := by rw [zm_66]; decide +kernel
theorem zf_66_33 : zzGet zzFL (zzM 66).2.2.2.2.1 33 = some (3, 5) := by rw [zm_66]; decide +kernel
theorem zl_66_56 : zzGet zzML (zzM 66).2.2.2.2.1 56 = some (1, 125) := by rw [zm_66]; decide +kernel
theorem zm_68 : zzM 68 = (yX4_become, cX4_become, 3, none, 4, 3, 1, zzc_68) := rfl
theorem zr_68 : (zzM 68).2.2.2.1 = none := by rw [zm_68]
theorem zo_68_0 : zzOp 68 0 = some (.aload_n 0, 1) := by unfold zzOp; rw [zm_68]; decide +kernel
theorem zo_68_1 : zzOp 68 1 = some (.iload_n 1, 1) := by unfold zzOp; rw [zm_68]; decide +kernel
theorem zo_68_2 : zzOp 68 2 = some (.putfield 9, 3) := by unfold zzOp; rw [zm_68]; decide +kernel
theorem zo_68_5 : zzOp 68 5 = some (.aload_n 0, 1) := by unfold zzOp; rw [zm_68]; decide +kernel
theorem zo_68_6 : zzOp 68 6 = some (.iload_n 2, 1) := by unfold zzOp; rw [zm_68]; decide +kernel
theorem zo_68_7 : zzOp 68 7 = some (.putfield 15, 3) := by unfold zzOp; rw [zm_68]; decide +kernel
theorem zo_68_10 : zzOp 68 10 = some (.aload_n 0, 1) := by unfold zzOp; rw [zm_68]; decide +kernel
theorem zo_68_11 : zzOp 68 11 = some (.getfield 18, 3) := by unfold zzOp; rw [zm_68]; decide +kernel
theorem zo_68_14 : zzOp 68 14 = some (.iconst 0, 1) := by unfold zzOp; rw [zm_68]; decide +kernel
theorem zo_68_15 : zzOp 68 15 = some (.invokestatic 22, 3) := by unfold zzOp; rw [zm_68]; decide +kernel
theorem zo_68_18 : zzOp 68 18 = some (.return_, 1) := by unfold zzOp; rw [zm_68]; decide +kernel
theorem zf_68_9 : zzGet zzFL (zzM 68).2.2.2.2.1 9 = some (4, 0) := by rw [zm_68]; decide +kernel
theorem zf_68_15 : zzGet zzFL (zzM 68).2.2.2.2.1 15 = some (4, 1) := by rw [zm_68]; decide +kernel
theorem zf_68_18 : zzGet zzFL (zzM 68).2.2.2.2.1 18 = some (4, 2) := by rw [zm_68]; decide +kernel
theorem zl_68_22 : zzGet zzML (zzM 68).2.2.2.2.1 22 = some (1, 128) := by rw [zm_68]; decide +kernel
theorem zm_69 : zzM 69 = (yX4_isMissing, cX4_isMissing, 1, (some .boolean), 4, 1, 1, zzc_69) := rfl
theorem zr_69 : (zzM 69).2.2.2.1 = (some .boolean) := by rw [zm_69]
theorem zo_69_0 : zzOp 69 0 = some (.aload_n 0, 1) := by unfold zzOp; rw [zm_69]; decide +kernel
theorem zo_69_1 : zzOp 69 1 = some (.getfield 9, 3) := by unfold zzOp; rw [zm_69]; decide +kernel
theorem zo_69_4 : zzOp 69 4 = some (.iconst (-1), 1) := by unfold zzOp; rw [zm_69]; decide +kernel
theorem zo_69_5 : zzOp 69 5 = some (.if_icmp .ne 7, 3) := by unfold zzOp; rw [zm_69]; decide +kernel
theorem zo_69_8 : zzOp 69 8 = some (.iconst 1, 1) := by unfold zzOp; rw [zm_69]; decide +kernel
theorem zo_69_9 : zzOp 69 9 = some (.goto 4, 3) := by unfold zzOp; rw [zm_69]; decide +kernel
theorem zo_69_12 : zzOp 69 12 = some (.iconst 0, 1) := by unfold zzOp; rw [zm_69]; decide +kernel
theorem zo_69_13 : zzOp 69 13 = some (.ireturn, 1) := by unfold zzOp; rw [zm_69]; decide +kernel
theorem zf_69_9 : zzGet zzFL (zzM 69).2.2.2.2.1 9 = some (4, 0) := by rw [zm_69]; decide +kernel
theorem zm_70 : zzM 70 = (yX4_has, cX4_has, 2, (some .boolean), 4, 2, 1, zzc_70) := rfl
theorem zr_70 : (zzM 70).2.2.2.1 = (some .boolean) := by rw [zm_70]
theorem zo_70_0 : zzOp 70 0 = some (.iload_n 1, 1) := by unfold zzOp; rw [zm_70]; decide +kernel
theorem zo_70_1 : zzOp 70 1 = some (.ifCond .lt 15, 3) := by unfold zzOp; rw [zm_70]; decide +kernel
theorem zo_70_4 : zzOp 70 4 = some (.iload_n 1, 1) := by unfold zzOp; rw [zm_70]; decide +kernel
theorem zo_70_5 : zzOp 70 5 = some (.aload_n 0, 1) := by unfold zzOp; rw [zm_70]; decide +kernel
theorem zo_70_6 : zzOp 70 6 = some (.getfield 15, 3) := by unfold zzOp; rw [zm_70]; decide +kernel
theorem zo_70_9 : zzOp 70 9 = some (.if_icmp .ge 7, 3) := by unfold zzOp; rw [zm_70]; decide +kernel
theorem zo_70_12 : zzOp 70 12 = some (.iconst 1, 1) := by unfold zzOp; rw [zm_70]; decide +kernel
theorem zo_70_13 : zzOp 70 13 = some (.goto 4, 3) := by unfold zzOp; rw [zm_70]; decide +kernel
theorem zo_70_16 : zzOp 70 16 = some (.iconst 0, 1) := by unfold zzOp; rw [zm_70]; decide +kernel
theorem zo_70_17 : zzOp 70 17 = some (.ireturn, 1) := by unfold zzOp; rw [zm_70]; decide +kernel
theorem zf_70_15 : zzGet zzFL (zzM 70).2.2.2.2.1 15 = some (4, 1) := by rw [zm_70]; decide +kernel
theorem zm_71 : zzM 71 = (yX4_hasRun, cX4_hasRun, 3, (some .boolean), 4, 3, 1, zzc_71) := rfl
theorem zr_71 : (zzM 71).2.2.2.1 = (some .boolean) := by rw [zm_71]
theorem zo_71_0 : zzOp 71 0 = some (.iload_n 2, 1) := by unfold zzOp; rw [zm_71]; decide +kernel
theorem zo_71_1 : zzOp 71 1 = some (.ifCond .lt 21, 3) := by unfold zzOp; rw [zm_71]; decide +kernel
theorem zo_71_4 : zzOp 71 4 = some (.iload_n 1, 1) := by unfold zzOp; rw [zm_71]; decide +kernel
theorem zo_71_5 : zzOp 71 5 = some (.ifCond .lt 17, 3) := by unfold zzOp; rw [zm_71]; decide +kernel
theorem zo_71_8 : zzOp 71 8 = some (.iload_n 1, 1) := by unfold zzOp; rw [zm_71]; decide +kernel
theorem zo_71_9 : zzOp 71 9 = some (.aload_n 0, 1) := by unfold zzOp; rw [zm_71]; decide +kernel
theorem zo_71_10 : zzOp 71 10 = some (.getfield 15, 3) := by unfold zzOp; rw [zm_71]; decide +kernel
theorem zo_71_13 : zzOp 71 13 = some (.iload_n 2, 1) := by unfold zzOp; rw [zm_71]; decide +kernel
theorem zo_71_14 : zzOp 71 14 = some (.isub, 1) := by unfold zzOp; rw [zm_71]; decide +kernel
theorem zo_71_15 : zzOp 71 15 = some (.if_icmp .gt 7, 3) := by unfold zzOp; rw [zm_71]; decide +kernel
theorem zo_71_18 : zzOp 71 18 = some (.iconst 1, 1) := by unfold zzOp; rw [zm_71]; decide +kernel
theorem zo_71_19 : zzOp 71 19 = some (.goto 4, 3) := by unfold zzOp; rw [zm_71]; decide +kernel
theorem zo_71_22 : zzOp 71 22 = some (.iconst 0, 1) := by unfold zzOp; rw [zm_71]; decide +kernel
theorem zo_71_23 : zzOp 71 23 = some (.ireturn, 1) := by unfold zzOp; rw [zm_71]; decide +kernel
theorem zf_71_15 : zzGet zzFL (zzM 71).2.2.2.2.1 15 = some (4, 1) := by rw [zm_71]; decide +kernel
theorem zm_72 : zzM 72 = (yX4_item, cX4_item, 2, (some .int), 4, 2, 1, zzc_72) := rfl
theorem zr_72 : (zzM 72).2.2.2.1 = (some .int) := by rw [zm_72]
theorem zo_72_0 : zzOp 72 0 = some (.aload_n 0, 1) := by unfold zzOp; rw [zm_72]; decide +kernel
theorem zo_72_1 : zzOp 72 1 = some (.getfield 18, 3) := by unfold zzOp; rw [zm_72]; decide +kernel
theorem zo_72_4 : zzOp 72 4 = some (.iload_n 1, 1) := by unfold zzOp; rw [zm_72]; decide +kernel
theorem zo_72_5 : zzOp 72 5 = some (.invokestatic 26, 3) := by unfold zzOp; rw [zm_72]; decide +kernel
theorem zo_72_8 : zzOp 72 8 = some (.ireturn, 1) := by unfold zzOp; rw [zm_72]; decide +kernel
theorem zf_72_18 : zzGet zzFL (zzM 72).2.2.2.2.1 18 = some (4, 2) := by rw [zm_72]; decide +kernel
theorem zl_72_26 : zzGet zzML (zzM 72).2.2.2.2.1 26 = some (1, 125) := by rw [zm_72]; decide +kernel
theorem zm_73 : zzM 73 = (yX4_write, cX4_write, 3, none, 4, 3, 1, zzc_73) := rfl
theorem zr_73 : (zzM 73).2.2.2.1 = none := by rw [zm_73]
theorem zo_73_0 : zzOp 73 0 = some (.aload_n 0, 1) := by unfold zzOp; rw [zm_73]; decide +kernel
theorem zo_73_1 : zzOp 73 1 = some (.getfield 18, 3) := by unfold zzOp; rw [zm_73]; decide +kernel
theorem zo_73_4 : zzOp 73 4 = some (.iload_n 1, 1) := by unfold zzOp; rw [zm_73]; decide +kernel
theorem zo_73_5 : zzOp 73 5 = some (.aload_n 0, 1) := by unfold zzOp; rw [zm_73]; decide +kernel
theorem zo_73_6 : zzOp 73 6 = some (.getfield 9, 3) := by unfold zzOp; rw [zm_73]; decide +kernel
theorem zo_73_9 : zzOp 73 9 = some (.ifCond .ne 8, 3) := by unfold zzOp; rw [zm_73]; decide +kernel
theorem zo_73_12 : zzOp 73 12 = some (.iload_n 2, 1) := by unfold zzOp; rw [zm_73]; decide +kernel
theorem zo_73_13 : zzOp 73 13 = some (.i2b, 1) := by unfold zzOp; rw [zm_73]; decide +kernel
theorem zo_73_14 : zzOp 73 14 = some (.goto 17, 3) := by unfold zzOp; rw [zm_73]; decide +kernel
theorem zo_73_17 : zzOp 73 17 = some (.aload_n 0, 1) := by unfold zzOp; rw [zm_73]; decide +kernel
theorem zo_73_18 : zzOp 73 18 = some (.getfield 9, 3) := by unfold zzOp; rw [zm_73]; decide +kernel
theorem zo_73_21 : zzOp 73 21 = some (.iconst 1, 1) := by unfold zzOp; rw [zm_73]; decide +kernel
theorem zo_73_22 : zzOp 73 22 = some (.if_icmp .ne 8, 3) := by unfold zzOp; rw [zm_73]; decide +kernel
theorem zo_73_25 : zzOp 73 25 = some (.iload_n 2, 1) := by unfold zzOp; rw [zm_73]; decide +kernel
theorem zo_73_26 : zzOp 73 26 = some (.i2s, 1) := by unfold zzOp; rw [zm_73]; decide +kernel
theorem zo_73_27 : zzOp 73 27 = some (.goto 4, 3) := by unfold zzOp; rw [zm_73]; decide +kernel
theorem zo_73_30 : zzOp 73 30 = some (.iload_n 2, 1) := by unfold zzOp; rw [zm_73]; decide +kernel
theorem zo_73_31 : zzOp 73 31 = some (.invokestatic 30, 3) := by unfold zzOp; rw [zm_73]; decide +kernel
theorem zo_73_34 : zzOp 73 34 = some (.return_, 1) := by unfold zzOp; rw [zm_73]; decide +kernel
theorem zf_73_9 : zzGet zzFL (zzM 73).2.2.2.2.1 9 = some (4, 0) := by rw [zm_73]; decide +kernel
theorem zf_73_18 : zzGet zzFL (zzM 73).2.2.2.2.1 18 = some (4, 2) := by rw [zm_73]; decide +kernel
theorem zl_73_30 : zzGet zzML (zzM 73).2.2.2.2.1 30 = some (1, 126) := by rw [zm_73]; decide +kernel
theorem zm_75 : zzM 75 = (yX5_startDraft, cX5_startDraft, 1, none, 5, 1, 1, zzc_75) := rfl
theorem zr_75 : (zzM 75).2.2.2.1 = none := by rw [zm_75]
theorem zo_75_0 : zzOp 75 0 = some (.aload_n 0, 1) := by unfold zzOp; rw [zm_75]; decide +kernel
theorem zo_75_1 : zzOp 75 1 = some (.aload_n 0, 1) := by unfold zzOp; rw [zm_75]; decide +kernel
theorem zo_75_2 : zzOp 75 2 = some (.getfield 21, 3) := by unfold zzOp; rw [zm_75]; decide +kernel
theorem zo_75_5 : zzOp 75 5 = some (.sipush 160, 3) := by unfold zzOp; rw [zm_75]; decide +kernel
theorem zo_75_8 : zzOp 75 8 = some (.imul, 1) := by unfold zzOp; rw [zm_75]; decide +kernel
theorem zo_75_9 : zzOp 75 9 = some (.putfield 25, 3) := by unfold zzOp; rw [zm_75]; decide +kernel
theorem zo_75_12 : zzOp 75 12 = some (.return_, 1) := by unfold zzOp; rw [zm_75]; decide +kernel
theorem zf_75_21 : zzGet zzFL (zzM 75).2.2.2.2.1 21 = some (5, 3) := by rw [zm_75]; decide +kernel
theorem zf_75_25 : zzGet zzFL (zzM 75).2.2.2.2.1 25 = some (5, 4) := by rw [zm_75]; decide +kernel
theorem zm_76 : zzM 76 = (yX5_add, cX5_add, 2, none, 5, 2, 1, zzc_76) := rfl
theorem zr_76 : (zzM 76).2.2.2.1 = none := by rw [zm_76]
theorem zo_76_0 : zzOp 76 0 = some (.aload_n 0, 1) := by unfold zzOp; rw [zm_76]; decide +kernel
theorem zo_76_1 : zzOp 76 1 = some (.getfield 9, 3) := by unfold zzOp; rw [zm_76]; decide +kernel
theorem zo_76_4 : zzOp 76 4 = some (.aload_n 0, 1) := by unfold zzOp; rw [zm_76]; decide +kernel
theorem zo_76_5 : zzOp 76 5 = some (.getfield 25, 3) := by unfold zzOp; rw [zm_76]; decide +kernel
theorem zo_76_8 : zzOp 76 8 = some (.iload_n 1, 1) := by unfold zzOp; rw [zm_76]; decide +kernel
theorem zo_76_9 : zzOp 76 9 = some (.invokestatic 28, 3) := by unfold zzOp; rw [zm_76]; decide +kernel
theorem zo_76_12 : zzOp 76 12 = some (.aload_n 0, 1) := by unfold zzOp; rw [zm_76]; decide +kernel
theorem zo_76_13 : zzOp 76 13 = some (.dup, 1) := by unfold zzOp; rw [zm_76]; decide +kernel
theorem zo_76_14 : zzOp 76 14 = some (.getfield 25, 3) := by unfold zzOp; rw [zm_76]; decide +kernel
theorem zo_76_17 : zzOp 76 17 = some (.iconst 1, 1) := by unfold zzOp; rw [zm_76]; decide +kernel
theorem zo_76_18 : zzOp 76 18 = some (.iadd, 1) := by unfold zzOp; rw [zm_76]; decide +kernel
theorem zo_76_19 : zzOp 76 19 = some (.putfield 25, 3) := by unfold zzOp; rw [zm_76]; decide +kernel
theorem zo_76_22 : zzOp 76 22 = some (.return_, 1) := by unfold zzOp; rw [zm_76]; decide +kernel
theorem zf_76_9 : zzGet zzFL (zzM 76).2.2.2.2.1 9 = some (5, 0) := by rw [zm_76]; decide +kernel
theorem zf_76_25 : zzGet zzFL (zzM 76).2.2.2.2.1 25 = some (5, 4) := by rw [zm_76]; decide +kernel
theorem zl_76_28 : zzGet zzML (zzM 76).2.2.2.2.1 28 = some (1, 126) := by rw [zm_76]; decide +kernel
theorem zm_77 : zzM 77 = (yX5_endPart, cX5_endPart, 2, none, 5, 2, 1, zzc_77) := rfl
theorem zr_77 : (zzM 77).2.2.2.1 = none := by rw [zm_77]
theorem zo_77_0 : zzOp 77 0 = some (.aload_n 0, 1) := by unfold zzOp; rw [zm_77]; decide +kernel
theorem zo_77_1 : zzOp 77 1 = some (.getfield 15, 3) := by unfold zzOp; rw [zm_77]; decide +kernel
theorem zo_77_4 : zzOp 77 4 = some (.aload_n 0, 1) := by unfold zzOp; rw [zm_77]; decide +kernel
theorem zo_77_5 : zzOp 77 5 = some (.getfield 21, 3) := by unfold zzOp; rw [zm_77]; decide +kernel
theorem zo_77_8 : zzOp 77 8 = some (.iconst 3, 1) := by unfold zzOp; rw [zm_77]; decide +kernel
theorem zo_77_9 : zzOp 77 9 = some (.imul, 1) := by unfold zzOp; rw [zm_77]; decide +kernel
theorem zo_77_10 : zzOp 77 10 = some (.iload_n 1, 1) := by unfold zzOp; rw [zm_77]; decide +kernel
theorem zo_77_11 : zzOp 77 11 = some (.iadd, 1) := by unfold zzOp; rw [zm_77]; decide +kernel
theorem zo_77_12 : zzOp 77 12 = some (.aload_n 0, 1) := by unfold zzOp; rw [zm_77]; decide +kernel
theorem zo_77_13 : zzOp 77 13 = some (.getfield 25, 3) := by unfold zzOp; rw [zm_77]; decide +kernel
theorem zo_77_16 : zzOp 77 16 = some (.invokestatic 28, 3) := by unfold zzOp; rw [zm_77]; decide +kernel
theorem zo_77_19 : zzOp 77 19 = some (.return_, 1) := by unfold zzOp; rw [zm_77]; decide +kernel
theorem zf_77_15 : zzGet zzFL (zzM 77).2.2.2.2.1 15 = some (5, 1) := by rw [zm_77]; decide +kernel
theorem zf_77_21 : zzGet zzFL (zzM 77).2.2.2.2.1 21 = some (5, 3) := by rw [zm_77]; decide +kernel
theorem zf_77_25 : zzGet zzFL (zzM 77).2.2.2.2.1 25 = some (5, 4) := by rw [zm_77]; decide +kernel
theorem zl_77_28 : zzGet zzML (zzM 77).2.2.2.2.1 28 = some (1, 126) := by rw [zm_77]; decide +kernel
theorem zm_78 : zzM 78 = (yX5_keepDraft, cX5_keepDraft, 1, none, 5, 1, 1, zzc_78) := rfl
theorem zr_78 : (zzM 78).2.2.2.1 = none := by rw [zm_78]
theorem zo_78_0 : zzOp 78 0 = some (.aload_n 0, 1) := by unfold zzOp; rw [zm_78]; decide +kernel
theorem zo_78_1 : zzOp 78 1 = some (.dup, 1) := by unfold zzOp; rw [zm_78]; decide +kernel
theorem zo_78_2 : zzOp 78 2 = some (.getfield 21, 3) := by unfold zzOp; rw [zm_78]; decide +kernel
theorem zo_78_5 : zzOp 78 5 = some (.iconst 1, 1) := by unfold zzOp; rw [zm_78]; decide +kernel
theorem zo_78_6 : zzOp 78 6 = some (.iadd, 1) := by unfold zzOp; rw [zm_78]; decide +kernel
theorem zo_78_7 : zzOp 78 7 = some (.putfield 21, 3) := by unfold zzOp; rw [zm_78]; decide +kernel
theorem zo_78_10 : zzOp 78 10 = some (.return_, 1) := by unfold zzOp; rw [zm_78]; decide +kernel
theorem zf_78_21 : zzGet zzFL (zzM 78).2.2.2.2.1 21 = some (5, 3) := by rw [zm_78]; decide +kernel
theorem zm_79 : zzM 79 = (yX5_value, cX5_value, 10, (some .int), 5, 4, 1, zzc_79) := rfl
theorem zr_79 : (zzM 79).2.2.2.1 = (some .int) := by rw [zm_79]
theorem zo_79_0 : zzOp 79 0 = some (.iload_n 1, 1) := by unfold zzOp; rw [zm_79]; decide +kernel
theorem zo_79_1 : zzOp 79 1 = some (.iconst 3, 1) := by unfold zzOp; rw [zm_79]; decide +kernel
theorem zo_79_2 : zzOp 79 2 = some (.imul, 1) := by unfold zzOp; rw [zm_79]; decide +kernel
theorem zo_79_3 : zzOp 79 3 = some (.iload_n 2, 1) := by unfold zzOp; rw [zm_79]; decide +kernel
theorem zo_79_4 : zzOp 79 4 = some (.iadd, 1) := by unfold zzOp; rw [zm_79]; decide +kernel
theorem zo_79_5 : zzOp 79 5 = some (.istore 4, 2) := by unfold zzOp; rw [zm_79]; decide +kernel
theorem zo_79_7 : zzOp 79 7 = some (.iload_n 2, 1) := by unfold zzOp; rw [zm_79]; decide +kernel
theorem zo_79_8 : zzOp 79 8 = some (.ifCond .ne 11, 3) := by unfold zzOp; rw [zm_79]; decide +kernel
theorem zo_79_11 : zzOp 79 11 = some (.iload_n 1, 1) := by unfold zzOp; rw [zm_79]; decide +kernel
theorem zo_79_12 : zzOp 79 12 = some (.sipush 160, 3) := by unfold zzOp; rw [zm_79]; decide +kernel
theorem zo_79_15 : zzOp 79 15 = some (.imul, 1) := by unfold zzOp; rw [zm_79]; decide +kernel
theorem zo_79_16 : zzOp 79 16 = some (.goto 14, 3) := by unfold zzOp; rw [zm_79]; decide +kernel
theorem zo_79_19 : zzOp 79 19 = some (.aload_n 0, 1) := by unfold zzOp; rw [zm_79]; decide +kernel
theorem zo_79_20 : zzOp 79 20 = some (.getfield 15, 3) := by unfold zzOp; rw [zm_79]; decide +kernel
theorem zo_79_23 : zzOp 79 23 = some (.iload 4, 2) := by unfold zzOp; rw [zm_79]; decide +kernel
theorem zo_79_25 : zzOp 79 25 = some (.iconst 1, 1) := by unfold zzOp; rw [zm_79]; decide +kernel
theorem zo_79_26 : zzOp 79 26 = some (.isub, 1) := by unfold zzOp; rw [zm_79]; decide +kernel
theorem zo_79_27 : zzOp 79 27 = some (.invokestatic 32, 3) := by unfold zzOp; rw [zm_79]; decide +kernel
theorem zo_79_30 : zzOp 79 30 = some (.istore 5, 2) := by unfold zzOp; rw [zm_79]; decide +kernel
theorem zo_79_32 : zzOp 79 32 = some (.aload_n 0, 1) := by unfold zzOp; rw [zm_79]; decide +kernel
theorem zo_79_33 : zzOp 79 33 = some (.getfield 15, 3) := by unfold zzOp; rw [zm_79]; decide +kernel
theorem zo_79_36 : zzOp 79 36 = some (.iload 4, 2) := by unfold zzOp; rw [zm_79]; decide +kernel
theorem zo_79_38 : zzOp 79 38 = some (.invokestatic 32, 3) := by unfold zzOp; rw [zm_79]; decide +kernel
theorem zo_79_41 : zzOp 79 41 = some (.istore 6, 2) := by unfold zzOp; rw [zm_79]; decide +kernel
theorem zo_79_43 : zzOp 79 43 = some (.iconst (-1), 1) := by unfold zzOp; rw [zm_79]; decide +kernel
theorem zo_79_44 : zzOp 79 44 = some (.istore 7, 2) := by unfold zzOp; rw [zm_79]; decide +kernel
theorem zo_79_46 : zzOp 79 46 = some (.iload 5, 2) := by unfold zzOp; rw [zm_79]; decide +kernel
theorem zo_79_48 : zzOp 79 48 = some (.istore 8, 2) := by unfold zzOp; rw [zm_79]; decide +kernel
theorem zo_79_50 : zzOp 79 50 = some (.iload 8, 2) := by unfold zzOp; rw [zm_79]; decide +kernel
theorem zo_79_52 : zzOp 79 52 = some (.iload 6, 2) := by unfold zzOp; rw [zm_79]; decide +kernel
theorem zo_79_54 : zzOp 79 54 = some (.if_icmp .ge 182, 3) := by unfold zzOp; rw [zm_79]; decide +kernel
theorem zo_79_57 : zzOp 79 57 = some (.aload_n 0, 1) := by unfold zzOp; rw [zm_79]; decide +kernel
theorem zo_79_58 : zzOp 79 58 = some (.getfield 9, 3) := by unfold zzOp; rw [zm_79]; decide +kernel
theorem zo_79_61 : zzOp 79 61 = some (.iload 8, 2) := by unfold zzOp; rw [zm_79]; decide +kernel
theorem zo_79_63 : zzOp 79 63 = some (.invokestatic 32, 3) := by unfold zzOp; rw [zm_79]; decide +kernel
theorem zo_79_66 : zzOp 79 66 = some (.istore 9, 2) := by unfold zzOp; rw [zm_79]; decide +kernel
theorem zo_79_68 : zzOp 79 68 = some (.iload 9, 2) := by unfold zzOp; rw [zm_79]; decide +kernel
theorem zo_79_70 : zzOp 79 70 = some (.sipush 10000, 3) := by unfold zzOp; rw [zm_79]; decide +kernel
theorem zo_79_73 : zzOp 79 73 = some (.if_icmp .ge 20, 3) := by unfold zzOp; rw [zm_79]; decide +kernel
theorem zo_79_76 : zzOp 79 76 = some (.iinc 7 1, 3) := by unfold zzOp; rw [zm_79]; decide +kernel
theorem zo_79_79 : zzOp 79 79 = some (.aload_n 0, 1) := by unfold zzOp; rw [zm_79]; decide +kernel
theorem zo_79_80 : zzOp 79 80 = some (.getfield 18, 3) := by unfold zzOp; rw [zm_79]; decide +kernel
theorem zo_79_83 : zzOp 79 83 = some (.iload 7, 2) := by unfold zzOp; rw [zm_79]; decide +kernel
theorem zo_79_85 : zzOp 79 85 = some (.iload 9, 2) := by unfold zzOp; rw [zm_79]; decide +kernel
theorem zo_79_87 : zzOp 79 87 = some (.invokestatic 28, 3) := by unfold zzOp; rw [zm_79]; decide +kernel
theorem zo_79_90 : zzOp 79 90 = some (.goto 140, 3) := by unfold zzOp; rw [zm_79]; decide +kernel
theorem zo_79_93 : zzOp 79 93 = some (.iload 9, 2) := by unfold zzOp; rw [zm_79]; decide +kernel
theorem zo_79_95 : zzOp 79 95 = some (.sipush 10005, 3) := by unfold zzOp; rw [zm_79]; decide +kernel
theorem zo_79_98 : zzOp 79 98 = some (.if_icmp .gt 28, 3) := by unfold zzOp; rw [zm_79]; decide +kernel
theorem zo_79_101 : zzOp 79 101 = some (.iinc 7 1, 3) := by unfold zzOp; rw [zm_79]; decide +kernel
theorem zo_79_104 : zzOp 79 104 = some (.aload_n 0, 1) := by unfold zzOp; rw [zm_79]; decide +kernel
theorem zo_79_105 : zzOp 79 105 = some (.getfield 18, 3) := by unfold zzOp; rw [zm_79]; decide +kernel
theorem zo_79_108 : zzOp 79 108 = some (.iload 7, 2) := by unfold zzOp; rw [zm_79]; decide +kernel
theorem zo_79_110 : zzOp 79 110 = some (.aload_n 3, 1) := by unfold zzOp; rw [zm_79]; decide +kernel
theorem zo_79_111 : zzOp 79 111 = some (.iload 9, 2) := by unfold zzOp; rw [zm_79]; decide +kernel
theorem zo_79_113 : zzOp 79 113 = some (.sipush 10000, 3) := by unfold zzOp; rw [zm_79]; decide +kernel
theorem zo_79_116 : zzOp 79 116 = some (.isub, 1) := by unfold zzOp; rw [zm_79]; decide +kernel
theorem zo_79_117 : zzOp 79 117 = some (.invokestatic 32, 3) := by unfold zzOp; rw [zm_79]; decide +kernel
theorem zo_79_120 : zzOp 79 120 = some (.invokestatic 28, 3) := by unfold zzOp; rw [zm_79]; decide +kernel
theorem zo_79_123 : zzOp 79 123 = some (.goto 107, 3) := by unfold zzOp; rw [zm_79]; decide +kernel
theorem zo_79_126 : zzOp 79 126 = some (.iload 9, 2) := by unfold zzOp; rw [zm_79]; decide +kernel
theorem zo_79_128 : zzOp 79 128 = some (.sipush 10011, 3) := by unfold zzOp; rw [zm_79]; decide +kernel
theorem zo_79_131 : zzOp 79 131 = some (.if_icmp .ne 32, 3) := by unfold zzOp; rw [zm_79]; decide +kernel
theorem zo_79_134 : zzOp 79 134 = some (.aload_n 0, 1) := by unfold zzOp; rw [zm_79]; decide +kernel
theorem zo_79_135 : zzOp 79 135 = some (.getfield 18, 3) := by unfold zzOp; rw [zm_79]; decide +kernel
theorem zo_79_138 : zzOp 79 138 = some (.iload 7, 2) := by unfold zzOp; rw [zm_79]; decide +kernel
theorem zo_79_140 : zzOp 79 140 = some (.aload_n 0, 1) := by unfold zzOp; rw [zm_79]; decide +kernel
theorem zo_79_141 : zzOp 79 141 = some (.getfield 18, 3) := by unfold zzOp; rw [zm_79]; decide +kernel
theorem zo_79_144 : zzOp 79 144 = some (.iload 7, 2) := by unfold zzOp; rw [zm_79]; decide +kernel
theorem zo_79_146 : zzOp 79 146 = some (.invokestatic 32, 3) := by unfold zzOp; rw [zm_79]; decide +kernel
theorem zo_79_149 : zzOp 79 149 = some (.ifCond .ne 7, 3) := by unfold zzOp; rw [zm_79]; decide +kernel
theorem zo_79_152 : zzOp 79 152 = some (.iconst 1, 1) := by unfold zzOp; rw [zm_79]; decide +kernel
theorem zo_79_153 : zzOp 79 153 = some (.goto 4, 3) := by unfold zzOp; rw [zm_79]; decide +kernel
theorem zo_79_156 : zzOp 79 156 = some (.iconst 0, 1) := by unfold zzOp; rw [zm_79]; decide +kernel
theorem zo_79_157 : zzOp 79 157 = some (.invokestatic 28, 3) := by unfold zzOp; rw [zm_79]; decide +kernel
theorem zo_79_160 : zzOp 79 160 = some (.goto 70, 3) := by unfold zzOp; rw [zm_79]; decide +kernel
theorem zo_79_163 : zzOp 79 163 = some (.iload 9, 2) := by unfold zzOp; rw [zm_79]; decide +kernel
theorem zo_79_165 : zzOp 79 165 = some (.sipush 10012, 3) := by unfold zzOp; rw [zm_79]; decide +kernel
theorem zo_79_168 : zzOp 79 168 = some (.if_icmp .ne 25, 3) := by unfold zzOp; rw [zm_79]; decide +kernel
theorem zo_79_171 : zzOp 79 171 = some (.aload_n 0, 1) := by unfold zzOp; rw [zm_79]; decide +kernel
theorem zo_79_172 : zzOp 79 172 = some (.getfield 18, 3) := by unfold zzOp; rw [zm_79]; decide +kernel
theorem zo_79_175 : zzOp 79 175 = some (.iload 7, 2) := by unfold zzOp; rw [zm_79]; decide +kernel
theorem zo_79_177 : zzOp 79 177 = some (.aload_n 0, 1) := by unfold zzOp; rw [zm_79]; decide +kernel
theorem zo_79_178 : zzOp 79 178 = some (.getfield 18, 3) := by unfold zzOp; rw [zm_79]; decide +kernel
theorem zo_79_181 : zzOp 79 181 = some (.iload 7, 2) := by unfold zzOp; rw [zm_79]; decide +kernel
theorem zo_79_183 : zzOp 79 183 = some (.invokestatic 32, 3) := by unfold zzOp; rw [zm_79]; decide +kernel
theorem zo_79_186 : zzOp 79 186 = some (.ineg, 1) := by unfold zzOp; rw [zm_79]; decide +kernel
theorem zo_79_187 : zzOp 79 187 = some (.invokestatic 28, 3) := by unfold zzOp; rw [zm_79]; decide +kernel
theorem zo_79_190 : zzOp 79 190 = some (.goto 40, 3) := by unfold zzOp; rw [zm_79]; decide +kernel
theorem zo_79_193 : zzOp 79 193 = some (.iinc 7 (-1), 3) := by unfold zzOp; rw [zm_79]; decide +kernel
theorem zo_79_196 : zzOp 79 196 = some (.aload_n 0, 1) := by unfold zzOp; rw [zm_79]; decide +kernel
theorem zo_79_197 : zzOp 79 197 = some (.getfield 18, 3) := by unfold zzOp; rw [zm_79]; decide +kernel
theorem zo_79_200 : zzOp 79 200 = some (.iload 7, 2) := by unfold zzOp; rw [zm_79]; decide +kernel
theorem zo_79_202 : zzOp 79 202 = some (.iload 9, 2) := by unfold zzOp; rw [zm_79]; decide +kernel
theorem zo_79_204 : zzOp 79 204 = some (.aload_n 0, 1) := by unfold zzOp; rw [zm_79]; decide +kernel
theorem zo_79_205 : zzOp 79 205 = some (.getfield 18, 3) := by unfold zzOp; rw [zm_79]; decide +kernel
theorem zo_79_208 : zzOp 79 208 = some (.iload 7, 2) := by unfold zzOp; rw [zm_79]; decide +kernel
theorem zo_79_210 : zzOp 79 210 = some (.invokestatic 32, 3) := by unfold zzOp; rw [zm_79]; decide +kernel
theorem zo_79_213 : zzOp 79 213 = some (.aload_n 0, 1) := by unfold zzOp; rw [zm_79]; decide +kernel
theorem zo_79_214 : zzOp 79 214 = some (.getfield 18, 3) := by unfold zzOp; rw [zm_79]; decide +kernel
theorem zo_79_217 : zzOp 79 217 = some (.iload 7, 2) := by unfold zzOp; rw [zm_79]; decide +kernel
theorem zo_79_219 : zzOp 79 219 = some (.iconst 1, 1) := by unfold zzOp; rw [zm_79]; decide +kernel
theorem zo_79_220 : zzOp 79 220 = some (.iadd, 1) := by unfold zzOp; rw [zm_79]; decide +kernel
theorem zo_79_221 : zzOp 79 221 = some (.invokestatic 32, 3) := by unfold zzOp; rw [zm_79]; decide +kernel
theorem zo_79_224 : zzOp 79 224 = some (.invokestatic 36, 3) := by unfold zzOp; rw [zm_79]; decide +kernel
theorem zo_79_227 : zzOp 79 227 = some (.invokestatic 28, 3) := by unfold zzOp; rw [zm_79]; decide +kernel
theorem zo_79_230 : zzOp 79 230 = some (.iinc 8 1, 3) := by unfold zzOp; rw [zm_79]; decide +kernel
theorem zo_79_233 : zzOp 79 233 = some (.goto (-183), 3) := by unfold zzOp; rw [zm_79]; decide +kernel
theorem zo_79_236 : zzOp 79 236 = some (.aload_n 0, 1) := by unfold zzOp; rw [zm_79]; decide +kernel
theorem zo_79_237 : zzOp 79 237 = some (.getfield 18, 3) := by unfold zzOp; rw [zm_79]; decide +kernel
theorem zo_79_240 : zzOp 79 240 = some (.iconst 0, 1) := by unfold zzOp; rw [zm_79]; decide +kernel
theorem zo_79_241 : zzOp 79 241 = some (.invokestatic 32, 3) := by unfold zzOp; rw [zm_79]; decide +kernel
theorem zo_79_244 : zzOp 79 244 = some (.ireturn, 1) := by unfold zzOp; rw [zm_79]; decide +kernel
theorem zf_79_9 : zzGet zzFL (zzM 79).2.2.2.2.1 9 = some (5, 0) := by rw [zm_79]; decide +kernel
theorem zf_79_15 : zzGet zzFL (zzM 79).2.2.2.2.1 15 = some (5, 1) := by rw [zm_79]; decide +kernel
theorem zf_79_18 : zzGet zzFL (zzM 79).2.2.2.2.1 18 = some (5, 2) := by rw [zm_79]; decide +kernel
theorem zl_79_28 : zzGet zzML (zzM 79).2.2.2.2.1 28 = some (1, 126) := by rw [zm_79]; decide +kernel
theorem zl_79_32 : zzGet zzML (zzM 79).2.2.2.2.1 32 = some (1, 125) := by rw [zm_79]; decide +kernel
theorem zl_79_36 : zzGet zzML (zzM 79).2.2.2.2.1 36 = some (0, 80) := by rw [zm_79]; decide +kernel
theorem zm_80 : zzM 80 = (yX5_joined, cX5_joined, 3, (some .int), 5, 3, 0, zzc_80) := rfl
theorem zr_80 : (zzM 80).2.2.2.1 = (some .int) := by rw [zm_80]
theorem zo_80_0 : zzOp 80 0 = some (.iload_n 0, 1) := by unfold zzOp; rw [zm_80]; decide +kernel
theorem zo_80_1 : zzOp 80 1 = some (.lookupswitch 129 #[(10009, 101), (10010, 115), (11042, 75), (11043, 67), (11045, 71), (11060, 79), (11061, 90)], 67) := by unfold zzOp; rw [zm_80]; decide +kernel
theorem zo_80_68 : zzOp 80 68 = some (.iload_n 1, 1) := by unfold zzOp; rw [zm_80]; decide +kernel
theorem zo_80_69 : zzOp 80 69 = some (.iload_n 2, 1) := by unfold zzOp; rw [zm_80]; decide +kernel
theorem zo_80_70 : zzOp 80 70 = some (.iadd, 1) := by unfold zzOp; rw [zm_80]; decide +kernel
theorem zo_80_71 : zzOp 80 71 = some (.ireturn, 1) := by unfold zzOp; rw [zm_80]; decide +kernel
theorem zo_80_72 : zzOp 80 72 = some (.iload_n 1, 1) := by unfold zzOp; rw [zm_80]; decide +kernel
theorem zo_80_73 : zzOp 80 73 = some (.iload_n 2, 1) := by unfold zzOp; rw [zm_80]; decide +kernel
theorem zo_80_74 : zzOp 80 74 = some (.isub, 1) := by unfold zzOp; rw [zm_80]; decide +kernel
theorem zo_80_75 : zzOp 80 75 = some (.ireturn, 1) := by unfold zzOp; rw [zm_80]; decide +kernel
theorem zo_80_76 : zzOp 80 76 = some (.iload_n 1, 1) := by unfold zzOp; rw [zm_80]; decide +kernel
theorem zo_80_77 : zzOp 80 77 = some (.iload_n 2, 1) := by unfold zzOp; rw [zm_80]; decide +kernel
theorem zo_80_78 : zzOp 80 78 = some (.imul, 1) := by unfold zzOp; rw [zm_80]; decide +kernel
theorem zo_80_79 : zzOp 80 79 = some (.ireturn, 1) := by unfold zzOp; rw [zm_80]; decide +kernel
theorem zo_80_80 : zzOp 80 80 = some (.iload_n 1, 1) := by unfold zzOp; rw [zm_80]; decide +kernel
theorem zo_80_81 : zzOp 80 81 = some (.iload_n 2, 1) := by unfold zzOp; rw [zm_80]; decide +kernel
theorem zo_80_82 : zzOp 80 82 = some (.if_icmp .ge 7, 3) := by unfold zzOp; rw [zm_80]; decide +kernel
theorem zo_80_85 : zzOp 80 85 = some (.iconst 1, 1) := by unfold zzOp; rw [zm_80]; decide +kernel
theorem zo_80_86 : zzOp 80 86 = some (.goto 4, 3) := by unfold zzOp; rw [zm_80]; decide +kernel
theorem zo_80_89 : zzOp 80 89 = some (.iconst 0, 1) := by unfold zzOp; rw [zm_80]; decide +kernel
theorem zo_80_90 : zzOp 80 90 = some (.ireturn, 1) := by unfold zzOp; rw [zm_80]; decide +kernel
theorem zo_80_91 : zzOp 80 91 = some (.iload_n 1, 1) := by unfold zzOp; rw [zm_80]; decide +kernel
theorem zo_80_92 : zzOp 80 92 = some (.iload_n 2, 1) := by unfold zzOp; rw [zm_80]; decide +kernel
theorem zo_80_93 : zzOp 80 93 = some (.if_icmp .ne 7, 3) := by unfold zzOp; rw [zm_80]; decide +kernel
theorem zo_80_96 : zzOp 80 96 = some (.iconst 1, 1) := by unfold zzOp; rw [zm_80]; decide +kernel
theorem zo_80_97 : zzOp 80 97 = some (.goto 4, 3) := by unfold zzOp; rw [zm_80]; decide +kernel
theorem zo_80_100 : zzOp 80 100 = some (.iconst 0, 1) := by unfold zzOp; rw [zm_80]; decide +kernel
theorem zo_80_101 : zzOp 80 101 = some (.ireturn, 1) := by unfold zzOp; rw [zm_80]; decide +kernel
theorem zo_80_102 : zzOp 80 102 = some (.iload_n 1, 1) := by unfold zzOp; rw [zm_80]; decide +kernel
theorem zo_80_103 : zzOp 80 103 = some (.ifCond .ne 7, 3) := by unfold zzOp; rw [zm_80]; decide +kernel
theorem zo_80_106 : zzOp 80 106 = some (.iload_n 2, 1) := by unfold zzOp; rw [zm_80]; decide +kernel
theorem zo_80_107 : zzOp 80 107 = some (.ifCond .eq 7, 3) := by unfold zzOp; rw [zm_80]; decide +kernel
theorem zo_80_110 : zzOp 80 110 = some (.iconst 1, 1) := by unfold zzOp; rw [zm_80]; decide +kernel
theorem zo_80_111 : zzOp 80 111 = some (.goto 4, 3) := by unfold zzOp; rw [zm_80]; decide +kernel
theorem zo_80_114 : zzOp 80 114 = some (.iconst 0, 1) := by unfold zzOp; rw [zm_80]; decide +kernel
theorem zo_80_115 : zzOp 80 115 = some (.ireturn, 1) := by unfold zzOp; rw [zm_80]; decide +kernel
theorem zo_80_116 : zzOp 80 116 = some (.iload_n 1, 1) := by unfold zzOp; rw [zm_80]; decide +kernel
theorem zo_80_117 : zzOp 80 117 = some (.ifCond .eq 11, 3) := by unfold zzOp; rw [zm_80]; decide +kernel
theorem zo_80_120 : zzOp 80 120 = some (.iload_n 2, 1) := by unfold zzOp; rw [zm_80]; decide +kernel
theorem zo_80_121 : zzOp 80 121 = some (.ifCond .eq 7, 3) := by unfold zzOp; rw [zm_80]; decide +kernel
theorem zo_80_124 : zzOp 80 124 = some (.iconst 1, 1) := by unfold zzOp; rw [zm_80]; decide +kernel
theorem zo_80_125 : zzOp 80 125 = some (.goto 4, 3) := by unfold zzOp; rw [zm_80]; decide +kernel
theorem zo_80_128 : zzOp 80 128 = some (.iconst 0, 1) := by unfold zzOp; rw [zm_80]; decide +kernel
theorem zo_80_129 : zzOp 80 129 = some (.ireturn, 1) := by unfold zzOp; rw [zm_80]; decide +kernel
theorem zo_80_130 : zzOp 80 130 = some (.iconst 0, 1) := by unfold zzOp; rw [zm_80]; decide +kernel
theorem zo_80_131 : zzOp 80 131 = some (.ireturn, 1) := by unfold zzOp; rw [zm_80]; decide +kernel
theorem zm_82 : zzM 82 = (yX6_set, cX6_set, 4, (some .int), 6, 4, 1, zzc_82) := rfl
theorem zr_82 : (zzM 82).2.2.2.1 = (some .int) := by rw [zm_82]
theorem zo_82_0 : zzOp 82 0 = some (.iload_n 1, 1) := by unfold zzOp; rw [zm_82]; decide +kernel
theorem zo_82_1 : zzOp 82 1 = some (.ifCond .eq 8, 3) := by unfold zzOp; rw [zm_82]; decide +kernel
theorem zo_82_4 : zzOp 82 4 = some (.iload_n 1, 1) := by unfold zzOp; rw [zm_82]; decide +kernel
theorem zo_82_5 : zzOp 82 5 = some (.iconst 1, 1) := by unfold zzOp; rw [zm_82]; decide +kernel
theorem zo_82_6 : zzOp 82 6 = some (.if_icmp .ne 10, 3) := by unfold zzOp; rw [zm_82]; decide +kernel
theorem zo_82_9 : zzOp 82 9 = some (.aload_n 0, 1) := by unfold zzOp; rw [zm_82]; decide +kernel
theorem zo_82_10 : zzOp 82 10 = some (.iload_n 1, 1) := by unfold zzOp; rw [zm_82]; decide +kernel
theorem zo_82_11 : zzOp 82 11 = some (.iload_n 3, 1) := by unfold zzOp; rw [zm_82]; decide +kernel
theorem zo_82_12 : zzOp 82 12 = some (.invokevirtual 82, 3) := by unfold zzOp; rw [zm_82]; decide +kernel
theorem zo_82_15 : zzOp 82 15 = some (.ireturn, 1) := by unfold zzOp; rw [zm_82]; decide +kernel
theorem zo_82_16 : zzOp 82 16 = some (.aload_n 0, 1) := by unfold zzOp; rw [zm_82]; decide +kernel
theorem zo_82_17 : zzOp 82 17 = some (.getfield 28, 3) := by unfold zzOp; rw [zm_82]; decide +kernel
theorem zo_82_20 : zzOp 82 20 = some (.iload_n 2, 1) := by unfold zzOp; rw [zm_82]; decide +kernel
theorem zo_82_21 : zzOp 82 21 = some (.invokevirtual 86, 3) := by unfold zzOp; rw [zm_82]; decide +kernel
theorem zo_82_24 : zzOp 82 24 = some (.ifCond .ne 6, 3) := by unfold zzOp; rw [zm_82]; decide +kernel
theorem zo_82_27 : zzOp 82 27 = some (.bipush (-2), 2) := by unfold zzOp; rw [zm_82]; decide +kernel
theorem zo_82_29 : zzOp 82 29 = some (.ireturn, 1) := by unfold zzOp; rw [zm_82]; decide +kernel
theorem zo_82_30 : zzOp 82 30 = some (.iload_n 1, 1) := by unfold zzOp; rw [zm_82]; decide +kernel
theorem zo_82_31 : zzOp 82 31 = some (.iconst 2, 1) := by unfold zzOp; rw [zm_82]; decide +kernel
theorem zo_82_32 : zzOp 82 32 = some (.if_icmp .ne 26, 3) := by unfold zzOp; rw [zm_82]; decide +kernel
theorem zo_82_35 : zzOp 82 35 = some (.iload_n 3, 1) := by unfold zzOp; rw [zm_82]; decide +kernel
theorem zo_82_36 : zzOp 82 36 = some (.ifCond .lt 22, 3) := by unfold zzOp; rw [zm_82]; decide +kernel
theorem zo_82_39 : zzOp 82 39 = some (.iload_n 3, 1) := by unfold zzOp; rw [zm_82]; decide +kernel
theorem zo_82_40 : zzOp 82 40 = some (.bipush 9, 2) := by unfold zzOp; rw [zm_82]; decide +kernel
theorem zo_82_42 : zzOp 82 42 = some (.if_icmp .gt 16, 3) := by unfold zzOp; rw [zm_82]; decide +kernel
theorem zo_82_45 : zzOp 82 45 = some (.aload_n 0, 1) := by unfold zzOp; rw [zm_82]; decide +kernel
theorem zo_82_46 : zzOp 82 46 = some (.getfield 28, 3) := by unfold zzOp; rw [zm_82]; decide +kernel
theorem zo_82_49 : zzOp 82 49 = some (.getfield 90, 3) := by unfold zzOp; rw [zm_82]; decide +kernel
theorem zo_82_52 : zzOp 82 52 = some (.iload_n 2, 1) := by unfold zzOp; rw [zm_82]; decide +kernel
theorem zo_82_53 : zzOp 82 53 = some (.iload_n 3, 1) := by unfold zzOp; rw [zm_82]; decide +kernel
theorem zo_82_54 : zzOp 82 54 = some (.invokestatic 94, 3) := by unfold zzOp; rw [zm_82]; decide +kernel
theorem zo_82_57 : zzOp 82 57 = some (.ireturn, 1) := by unfold zzOp; rw [zm_82]; decide +kernel
theorem zo_82_58 : zzOp 82 58 = some (.iload_n 1, 1) := by unfold zzOp; rw [zm_82]; decide +kernel
theorem zo_82_59 : zzOp 82 59 = some (.iconst 3, 1) := by unfold zzOp; rw [zm_82]; decide +kernel
theorem zo_82_60 : zzOp 82 60 = some (.if_icmp .ne 37, 3) := by unfold zzOp; rw [zm_82]; decide +kernel
theorem zo_82_63 : zzOp 82 63 = some (.iload_n 3, 1) := by unfold zzOp; rw [zm_82]; decide +kernel
theorem zo_82_64 : zzOp 82 64 = some (.iload_n 2, 1) := by unfold zzOp; rw [zm_82]; decide +kernel
theorem zo_82_65 : zzOp 82 65 = some (.if_icmp .eq 32, 3) := by unfold zzOp; rw [zm_82]; decide +kernel
theorem zo_82_68 : zzOp 82 68 = some (.iload_n 3, 1) := by unfold zzOp; rw [zm_82]; decide +kernel
theorem zo_82_69 : zzOp 82 69 = some (.iconst (-1), 1) := by unfold zzOp; rw [zm_82]; decide +kernel
theorem zo_82_70 : zzOp 82 70 = some (.if_icmp .eq 14, 3) := by unfold zzOp; rw [zm_82]; decide +kernel
theorem zo_82_73 : zzOp 82 73 = some (.aload_n 0, 1) := by unfold zzOp; rw [zm_82]; decide +kernel
theorem zo_82_74 : zzOp 82 74 = some (.getfield 28, 3) := by unfold zzOp; rw [zm_82]; decide +kernel
theorem zo_82_77 : zzOp 82 77 = some (.iload_n 3, 1) := by unfold zzOp; rw [zm_82]; decide +kernel
theorem zo_82_78 : zzOp 82 78 = some (.invokevirtual 86, 3) := by unfold zzOp; rw [zm_82]; decide +kernel
theorem zo_82_81 : zzOp 82 81 = some (.ifCond .eq 16, 3) := by unfold zzOp; rw [zm_82]; decide +kernel
theorem zo_82_84 : zzOp 82 84 = some (.aload_n 0, 1) := by unfold zzOp; rw [zm_82]; decide +kernel
theorem zo_82_85 : zzOp 82 85 = some (.getfield 28, 3) := by unfold zzOp; rw [zm_82]; decide +kernel
theorem zo_82_88 : zzOp 82 88 = some (.getfield 98, 3) := by unfold zzOp; rw [zm_82]; decide +kernel
theorem zo_82_91 : zzOp 82 91 = some (.iload_n 2, 1) := by unfold zzOp; rw [zm_82]; decide +kernel
theorem zo_82_92 : zzOp 82 92 = some (.iload_n 3, 1) := by unfold zzOp; rw [zm_82]; decide +kernel
theorem zo_82_93 : zzOp 82 93 = some (.invokestatic 94, 3) := by unfold zzOp; rw [zm_82]; decide +kernel
theorem zo_82_96 : zzOp 82 96 = some (.ireturn, 1) := by unfold zzOp; rw [zm_82]; decide +kernel
theorem zo_82_97 : zzOp 82 97 = some (.bipush (-2), 2) := by unfold zzOp; rw [zm_82]; decide +kernel
theorem zo_82_99 : zzOp 82 99 = some (.ireturn, 1) := by unfold zzOp; rw [zm_82]; decide +kernel
theorem zf_82_28 : zzGet zzFL (zzM 82).2.2.2.2.1 28 = some (6, 2) := by rw [zm_82]; decide +kernel
theorem zf_82_90 : zzGet zzFL (zzM 82).2.2.2.2.1 90 = some (0, 6) := by rw [zm_82]; decide +kernel
theorem zf_82_98 : zzGet zzFL (zzM 82).2.2.2.2.1 98 = some (0, 7) := by rw [zm_82]; decide +kernel
theorem zl_82_82 : zzGet zzML (zzM 82).2.2.2.2.1 82 = some (2, 83) := by rw [zm_82]; decide +kernel
theorem zl_82_86 : zzGet zzML (zzM 82).2.2.2.2.1 86 = some (2, 2) := by rw [zm_82]; decide +kernel
theorem zl_82_94 : zzGet zzML (zzM 82).2.2.2.2.1 94 = some (0, 127) := by rw [zm_82]; decide +kernel
theorem zm_83 : zzM 83 = (yX6_setForAll, cX6_setForAll, 4, (some .int), 6, 3, 1, zzc_83) := rfl
theorem zr_83 : (zzM 83).2.2.2.1 = (some .int) := by rw [zm_83]
theorem zo_83_0 : zzOp 83 0 = some (.iload_n 2, 1) := by unfold zzOp; rw [zm_83]; decide +kernel
theorem zo_83_1 : zzOp 83 1 = some (.ifCond .lt 19, 3) := by unfold zzOp; rw [zm_83]; decide +kernel
theorem zo_83_4 : zzOp 83 4 = some (.iload_n 2, 1) := by unfold zzOp; rw [zm_83]; decide +kernel
theorem zo_83_5 : zzOp 83 5 = some (.iload_n 1, 1) := by unfold zzOp; rw [zm_83]; decide +kernel
theorem zo_83_6 : zzOp 83 6 = some (.ifCond .ne 8, 3) := by unfold zzOp; rw [zm_83]; decide +kernel
theorem zo_83_9 : zzOp 83 9 = some (.bipush 99, 2) := by unfold zzOp; rw [zm_83]; decide +kernel
theorem zo_83_11 : zzOp 83 11 = some (.goto 6, 3) := by unfold zzOp; rw [zm_83]; decide +kernel
theorem zo_83_14 : zzOp 83 14 = some (.sipush 999, 3) := by unfold zzOp; rw [zm_83]; decide +kernel
theorem zo_83_17 : zzOp 83 17 = some (.if_icmp .le 6, 3) := by unfold zzOp; rw [zm_83]; decide +kernel
theorem zo_83_20 : zzOp 83 20 = some (.bipush (-2), 2) := by unfold zzOp; rw [zm_83]; decide +kernel
theorem zo_83_22 : zzOp 83 22 = some (.ireturn, 1) := by unfold zzOp; rw [zm_83]; decide +kernel
theorem zo_83_23 : zzOp 83 23 = some (.iload_n 1, 1) := by unfold zzOp; rw [zm_83]; decide +kernel
theorem zo_83_24 : zzOp 83 24 = some (.ifCond .ne 13, 3) := by unfold zzOp; rw [zm_83]; decide +kernel
theorem zo_83_27 : zzOp 83 27 = some (.aload_n 0, 1) := by unfold zzOp; rw [zm_83]; decide +kernel
theorem zo_83_28 : zzOp 83 28 = some (.getfield 28, 3) := by unfold zzOp; rw [zm_83]; decide +kernel
theorem zo_83_31 : zzOp 83 31 = some (.getfield 101, 3) := by unfold zzOp; rw [zm_83]; decide +kernel
theorem zo_83_34 : zzOp 83 34 = some (.goto 10, 3) := by unfold zzOp; rw [zm_83]; decide +kernel
theorem zo_83_37 : zzOp 83 37 = some (.aload_n 0, 1) := by unfold zzOp; rw [zm_83]; decide +kernel
theorem zo_83_38 : zzOp 83 38 = some (.getfield 28, 3) := by unfold zzOp; rw [zm_83]; decide +kernel
theorem zo_83_41 : zzOp 83 41 = some (.getfield 105, 3) := by unfold zzOp; rw [zm_83]; decide +kernel
theorem zo_83_44 : zzOp 83 44 = some (.istore_n 3, 1) := by unfold zzOp; rw [zm_83]; decide +kernel
theorem zo_83_45 : zzOp 83 45 = some (.iload_n 1, 1) := by unfold zzOp; rw [zm_83]; decide +kernel
theorem zo_83_46 : zzOp 83 46 = some (.ifCond .ne 14, 3) := by unfold zzOp; rw [zm_83]; decide +kernel
theorem zo_83_49 : zzOp 83 49 = some (.aload_n 0, 1) := by unfold zzOp; rw [zm_83]; decide +kernel
theorem zo_83_50 : zzOp 83 50 = some (.getfield 28, 3) := by unfold zzOp; rw [zm_83]; decide +kernel
theorem zo_83_53 : zzOp 83 53 = some (.iload_n 2, 1) := by unfold zzOp; rw [zm_83]; decide +kernel
theorem zo_83_54 : zzOp 83 54 = some (.putfield 101, 3) := by unfold zzOp; rw [zm_83]; decide +kernel
theorem zo_83_57 : zzOp 83 57 = some (.goto 11, 3) := by unfold zzOp; rw [zm_83]; decide +kernel
theorem zo_83_60 : zzOp 83 60 = some (.aload_n 0, 1) := by unfold zzOp; rw [zm_83]; decide +kernel
theorem zo_83_61 : zzOp 83 61 = some (.getfield 28, 3) := by unfold zzOp; rw [zm_83]; decide +kernel
theorem zo_83_64 : zzOp 83 64 = some (.iload_n 2, 1) := by unfold zzOp; rw [zm_83]; decide +kernel
theorem zo_83_65 : zzOp 83 65 = some (.putfield 105, 3) := by unfold zzOp; rw [zm_83]; decide +kernel
theorem zo_83_68 : zzOp 83 68 = some (.iload_n 3, 1) := by unfold zzOp; rw [zm_83]; decide +kernel
theorem zo_83_69 : zzOp 83 69 = some (.ireturn, 1) := by unfold zzOp; rw [zm_83]; decide +kernel
theorem zf_83_28 : zzGet zzFL (zzM 83).2.2.2.2.1 28 = some (6, 2) := by rw [zm_83]; decide +kernel
theorem zf_83_101 : zzGet zzFL (zzM 83).2.2.2.2.1 101 = some (0, 1) := by rw [zm_83]; decide +kernel
theorem zf_83_105 : zzGet zzFL (zzM 83).2.2.2.2.1 105 = some (0, 2) := by rw [zm_83]; decide +kernel
