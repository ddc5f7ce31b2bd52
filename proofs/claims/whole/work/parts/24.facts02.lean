/-! what stands at each place (written by wip/whole/gen2.py) -/
theorem zm_84 : zzM 84 = (yX6_passenger, cX6_passenger, 3, (some .int), 6, 3, 1, zzc_84) := rfl
theorem zr_84 : (zzM 84).2.2.2.1 = (some .int) := by rw [zm_84]
theorem zo_84_0 : zzOp 84 0 = some (.iload_n 1, 1) := by unfold zzOp; rw [zm_84]; decide +kernel
theorem zo_84_1 : zzOp 84 1 = some (.ifCond .lt 19, 3) := by unfold zzOp; rw [zm_84]; decide +kernel
theorem zo_84_4 : zzOp 84 4 = some (.iload_n 1, 1) := by unfold zzOp; rw [zm_84]; decide +kernel
theorem zo_84_5 : zzOp 84 5 = some (.bipush 6, 2) := by unfold zzOp; rw [zm_84]; decide +kernel
theorem zo_84_7 : zzOp 84 7 = some (.if_icmp .ge 13, 3) := by unfold zzOp; rw [zm_84]; decide +kernel
theorem zo_84_10 : zzOp 84 10 = some (.iload_n 2, 1) := by unfold zzOp; rw [zm_84]; decide +kernel
theorem zo_84_11 : zzOp 84 11 = some (.ifCond .lt 9, 3) := by unfold zzOp; rw [zm_84]; decide +kernel
theorem zo_84_14 : zzOp 84 14 = some (.iload_n 2, 1) := by unfold zzOp; rw [zm_84]; decide +kernel
theorem zo_84_15 : zzOp 84 15 = some (.bipush 9, 2) := by unfold zzOp; rw [zm_84]; decide +kernel
theorem zo_84_17 : zzOp 84 17 = some (.if_icmp .le 6, 3) := by unfold zzOp; rw [zm_84]; decide +kernel
theorem zo_84_20 : zzOp 84 20 = some (.bipush (-2), 2) := by unfold zzOp; rw [zm_84]; decide +kernel
theorem zo_84_22 : zzOp 84 22 = some (.ireturn, 1) := by unfold zzOp; rw [zm_84]; decide +kernel
theorem zo_84_23 : zzOp 84 23 = some (.aload_n 0, 1) := by unfold zzOp; rw [zm_84]; decide +kernel
theorem zo_84_24 : zzOp 84 24 = some (.getfield 28, 3) := by unfold zzOp; rw [zm_84]; decide +kernel
theorem zo_84_27 : zzOp 84 27 = some (.getfield 108, 3) := by unfold zzOp; rw [zm_84]; decide +kernel
theorem zo_84_30 : zzOp 84 30 = some (.bipush 8, 2) := by unfold zzOp; rw [zm_84]; decide +kernel
theorem zo_84_32 : zzOp 84 32 = some (.if_icmp .lt 8, 3) := by unfold zzOp; rw [zm_84]; decide +kernel
theorem zo_84_35 : zzOp 84 35 = some (.bipush (-4), 2) := by unfold zzOp; rw [zm_84]; decide +kernel
theorem zo_84_37 : zzOp 84 37 = some (.goto 12, 3) := by unfold zzOp; rw [zm_84]; decide +kernel
theorem zo_84_40 : zzOp 84 40 = some (.aload_n 0, 1) := by unfold zzOp; rw [zm_84]; decide +kernel
theorem zo_84_41 : zzOp 84 41 = some (.getfield 28, 3) := by unfold zzOp; rw [zm_84]; decide +kernel
theorem zo_84_44 : zzOp 84 44 = some (.iload_n 1, 1) := by unfold zzOp; rw [zm_84]; decide +kernel
theorem zo_84_45 : zzOp 84 45 = some (.iload_n 2, 1) := by unfold zzOp; rw [zm_84]; decide +kernel
theorem zo_84_46 : zzOp 84 46 = some (.invokevirtual 111, 3) := by unfold zzOp; rw [zm_84]; decide +kernel
theorem zo_84_49 : zzOp 84 49 = some (.ireturn, 1) := by unfold zzOp; rw [zm_84]; decide +kernel
theorem zf_84_28 : zzGet zzFL (zzM 84).2.2.2.2.1 28 = some (6, 2) := by rw [zm_84]; decide +kernel
theorem zf_84_108 : zzGet zzFL (zzM 84).2.2.2.2.1 108 = some (0, 4) := by rw [zm_84]; decide +kernel
theorem zl_84_111 : zzGet zzML (zzM 84).2.2.2.2.1 111 = some (2, 3) := by rw [zm_84]; decide +kernel
theorem zm_85 : zzM 85 = (yX6_sit, cX6_sit, 5, (some .int), 6, 3, 1, zzc_85) := rfl
theorem zr_85 : (zzM 85).2.2.2.1 = (some .int) := by rw [zm_85]
theorem zo_85_0 : zzOp 85 0 = some (.aload_n 0, 1) := by unfold zzOp; rw [zm_85]; decide +kernel
theorem zo_85_1 : zzOp 85 1 = some (.getfield 28, 3) := by unfold zzOp; rw [zm_85]; decide +kernel
theorem zo_85_4 : zzOp 85 4 = some (.iload_n 1, 1) := by unfold zzOp; rw [zm_85]; decide +kernel
theorem zo_85_5 : zzOp 85 5 = some (.invokevirtual 86, 3) := by unfold zzOp; rw [zm_85]; decide +kernel
theorem zo_85_8 : zzOp 85 8 = some (.ifCond .eq 14, 3) := by unfold zzOp; rw [zm_85]; decide +kernel
theorem zo_85_11 : zzOp 85 11 = some (.iload_n 2, 1) := by unfold zzOp; rw [zm_85]; decide +kernel
theorem zo_85_12 : zzOp 85 12 = some (.iconst (-1), 1) := by unfold zzOp; rw [zm_85]; decide +kernel
theorem zo_85_13 : zzOp 85 13 = some (.if_icmp .lt 9, 3) := by unfold zzOp; rw [zm_85]; decide +kernel
theorem zo_85_16 : zzOp 85 16 = some (.iload_n 2, 1) := by unfold zzOp; rw [zm_85]; decide +kernel
theorem zo_85_17 : zzOp 85 17 = some (.bipush 24, 2) := by unfold zzOp; rw [zm_85]; decide +kernel
theorem zo_85_19 : zzOp 85 19 = some (.if_icmp .lt 6, 3) := by unfold zzOp; rw [zm_85]; decide +kernel
theorem zo_85_22 : zzOp 85 22 = some (.bipush (-2), 2) := by unfold zzOp; rw [zm_85]; decide +kernel
theorem zo_85_24 : zzOp 85 24 = some (.ireturn, 1) := by unfold zzOp; rw [zm_85]; decide +kernel
theorem zo_85_25 : zzOp 85 25 = some (.aload_n 0, 1) := by unfold zzOp; rw [zm_85]; decide +kernel
theorem zo_85_26 : zzOp 85 26 = some (.getfield 28, 3) := by unfold zzOp; rw [zm_85]; decide +kernel
theorem zo_85_29 : zzOp 85 29 = some (.iload_n 2, 1) := by unfold zzOp; rw [zm_85]; decide +kernel
theorem zo_85_30 : zzOp 85 30 = some (.invokevirtual 114, 3) := by unfold zzOp; rw [zm_85]; decide +kernel
theorem zo_85_33 : zzOp 85 33 = some (.istore_n 3, 1) := by unfold zzOp; rw [zm_85]; decide +kernel
theorem zo_85_34 : zzOp 85 34 = some (.iload_n 3, 1) := by unfold zzOp; rw [zm_85]; decide +kernel
theorem zo_85_35 : zzOp 85 35 = some (.iconst (-1), 1) := by unfold zzOp; rw [zm_85]; decide +kernel
theorem zo_85_36 : zzOp 85 36 = some (.if_icmp .eq 11, 3) := by unfold zzOp; rw [zm_85]; decide +kernel
theorem zo_85_39 : zzOp 85 39 = some (.iload_n 3, 1) := by unfold zzOp; rw [zm_85]; decide +kernel
theorem zo_85_40 : zzOp 85 40 = some (.iload_n 1, 1) := by unfold zzOp; rw [zm_85]; decide +kernel
theorem zo_85_41 : zzOp 85 41 = some (.if_icmp .eq 6, 3) := by unfold zzOp; rw [zm_85]; decide +kernel
theorem zo_85_44 : zzOp 85 44 = some (.bipush (-3), 2) := by unfold zzOp; rw [zm_85]; decide +kernel
theorem zo_85_46 : zzOp 85 46 = some (.ireturn, 1) := by unfold zzOp; rw [zm_85]; decide +kernel
theorem zo_85_47 : zzOp 85 47 = some (.aload_n 0, 1) := by unfold zzOp; rw [zm_85]; decide +kernel
theorem zo_85_48 : zzOp 85 48 = some (.getfield 28, 3) := by unfold zzOp; rw [zm_85]; decide +kernel
theorem zo_85_51 : zzOp 85 51 = some (.iload_n 1, 1) := by unfold zzOp; rw [zm_85]; decide +kernel
theorem zo_85_52 : zzOp 85 52 = some (.invokevirtual 117, 3) := by unfold zzOp; rw [zm_85]; decide +kernel
theorem zo_85_55 : zzOp 85 55 = some (.istore 4, 2) := by unfold zzOp; rw [zm_85]; decide +kernel
theorem zo_85_57 : zzOp 85 57 = some (.aload_n 0, 1) := by unfold zzOp; rw [zm_85]; decide +kernel
theorem zo_85_58 : zzOp 85 58 = some (.getfield 28, 3) := by unfold zzOp; rw [zm_85]; decide +kernel
theorem zo_85_61 : zzOp 85 61 = some (.iload_n 1, 1) := by unfold zzOp; rw [zm_85]; decide +kernel
theorem zo_85_62 : zzOp 85 62 = some (.iload_n 2, 1) := by unfold zzOp; rw [zm_85]; decide +kernel
theorem zo_85_63 : zzOp 85 63 = some (.invokevirtual 120, 3) := by unfold zzOp; rw [zm_85]; decide +kernel
theorem zo_85_66 : zzOp 85 66 = some (.iload 4, 2) := by unfold zzOp; rw [zm_85]; decide +kernel
theorem zo_85_68 : zzOp 85 68 = some (.ireturn, 1) := by unfold zzOp; rw [zm_85]; decide +kernel
theorem zf_85_28 : zzGet zzFL (zzM 85).2.2.2.2.1 28 = some (6, 2) := by rw [zm_85]; decide +kernel
theorem zl_85_86 : zzGet zzML (zzM 85).2.2.2.2.1 86 = some (2, 2) := by rw [zm_85]; decide +kernel
theorem zl_85_114 : zzGet zzML (zzM 85).2.2.2.2.1 114 = some (2, 9) := by rw [zm_85]; decide +kernel
theorem zl_85_117 : zzGet zzML (zzM 85).2.2.2.2.1 117 = some (2, 7) := by rw [zm_85]; decide +kernel
theorem zl_85_120 : zzGet zzML (zzM 85).2.2.2.2.1 120 = some (2, 11) := by rw [zm_85]; decide +kernel
theorem zm_86 : zzM 86 = (yX6_told, cX6_told, 3, (some .int), 6, 3, 1, zzc_86) := rfl
theorem zr_86 : (zzM 86).2.2.2.1 = (some .int) := by rw [zm_86]
theorem zo_86_0 : zzOp 86 0 = some (.iload_n 2, 1) := by unfold zzOp; rw [zm_86]; decide +kernel
theorem zo_86_1 : zzOp 86 1 = some (.ifCond .ne 11, 3) := by unfold zzOp; rw [zm_86]; decide +kernel
theorem zo_86_4 : zzOp 86 4 = some (.aload_n 0, 1) := by unfold zzOp; rw [zm_86]; decide +kernel
theorem zo_86_5 : zzOp 86 5 = some (.getfield 28, 3) := by unfold zzOp; rw [zm_86]; decide +kernel
theorem zo_86_8 : zzOp 86 8 = some (.getfield 101, 3) := by unfold zzOp; rw [zm_86]; decide +kernel
theorem zo_86_11 : zzOp 86 11 = some (.ireturn, 1) := by unfold zzOp; rw [zm_86]; decide +kernel
theorem zo_86_12 : zzOp 86 12 = some (.iload_n 2, 1) := by unfold zzOp; rw [zm_86]; decide +kernel
theorem zo_86_13 : zzOp 86 13 = some (.iconst 1, 1) := by unfold zzOp; rw [zm_86]; decide +kernel
theorem zo_86_14 : zzOp 86 14 = some (.if_icmp .ne 11, 3) := by unfold zzOp; rw [zm_86]; decide +kernel
theorem zo_86_17 : zzOp 86 17 = some (.aload_n 0, 1) := by unfold zzOp; rw [zm_86]; decide +kernel
theorem zo_86_18 : zzOp 86 18 = some (.getfield 28, 3) := by unfold zzOp; rw [zm_86]; decide +kernel
theorem zo_86_21 : zzOp 86 21 = some (.getfield 105, 3) := by unfold zzOp; rw [zm_86]; decide +kernel
theorem zo_86_24 : zzOp 86 24 = some (.ireturn, 1) := by unfold zzOp; rw [zm_86]; decide +kernel
theorem zo_86_25 : zzOp 86 25 = some (.aload_n 0, 1) := by unfold zzOp; rw [zm_86]; decide +kernel
theorem zo_86_26 : zzOp 86 26 = some (.getfield 28, 3) := by unfold zzOp; rw [zm_86]; decide +kernel
theorem zo_86_29 : zzOp 86 29 = some (.iload_n 1, 1) := by unfold zzOp; rw [zm_86]; decide +kernel
theorem zo_86_30 : zzOp 86 30 = some (.invokevirtual 86, 3) := by unfold zzOp; rw [zm_86]; decide +kernel
theorem zo_86_33 : zzOp 86 33 = some (.ifCond .ne 6, 3) := by unfold zzOp; rw [zm_86]; decide +kernel
theorem zo_86_36 : zzOp 86 36 = some (.bipush (-2), 2) := by unfold zzOp; rw [zm_86]; decide +kernel
theorem zo_86_38 : zzOp 86 38 = some (.ireturn, 1) := by unfold zzOp; rw [zm_86]; decide +kernel
theorem zo_86_39 : zzOp 86 39 = some (.iload_n 2, 1) := by unfold zzOp; rw [zm_86]; decide +kernel
theorem zo_86_40 : zzOp 86 40 = some (.tableswitch 135 2 9 #[48, 57, 66, 75, 84, 93, 109, 118], 48) := by unfold zzOp; rw [zm_86]; decide +kernel
theorem zo_86_88 : zzOp 86 88 = some (.aload_n 0, 1) := by unfold zzOp; rw [zm_86]; decide +kernel
theorem zo_86_89 : zzOp 86 89 = some (.getfield 28, 3) := by unfold zzOp; rw [zm_86]; decide +kernel
theorem zo_86_92 : zzOp 86 92 = some (.iload_n 1, 1) := by unfold zzOp; rw [zm_86]; decide +kernel
theorem zo_86_93 : zzOp 86 93 = some (.invokevirtual 124, 3) := by unfold zzOp; rw [zm_86]; decide +kernel
theorem zo_86_96 : zzOp 86 96 = some (.ireturn, 1) := by unfold zzOp; rw [zm_86]; decide +kernel
theorem zo_86_97 : zzOp 86 97 = some (.aload_n 0, 1) := by unfold zzOp; rw [zm_86]; decide +kernel
theorem zo_86_98 : zzOp 86 98 = some (.getfield 28, 3) := by unfold zzOp; rw [zm_86]; decide +kernel
theorem zo_86_101 : zzOp 86 101 = some (.iload_n 1, 1) := by unfold zzOp; rw [zm_86]; decide +kernel
theorem zo_86_102 : zzOp 86 102 = some (.invokevirtual 127, 3) := by unfold zzOp; rw [zm_86]; decide +kernel
theorem zo_86_105 : zzOp 86 105 = some (.ireturn, 1) := by unfold zzOp; rw [zm_86]; decide +kernel
theorem zo_86_106 : zzOp 86 106 = some (.aload_n 0, 1) := by unfold zzOp; rw [zm_86]; decide +kernel
theorem zo_86_107 : zzOp 86 107 = some (.getfield 28, 3) := by unfold zzOp; rw [zm_86]; decide +kernel
theorem zo_86_110 : zzOp 86 110 = some (.iload_n 1, 1) := by unfold zzOp; rw [zm_86]; decide +kernel
theorem zo_86_111 : zzOp 86 111 = some (.invokevirtual 130, 3) := by unfold zzOp; rw [zm_86]; decide +kernel
theorem zo_86_114 : zzOp 86 114 = some (.ireturn, 1) := by unfold zzOp; rw [zm_86]; decide +kernel
theorem zo_86_115 : zzOp 86 115 = some (.aload_n 0, 1) := by unfold zzOp; rw [zm_86]; decide +kernel
theorem zo_86_116 : zzOp 86 116 = some (.getfield 28, 3) := by unfold zzOp; rw [zm_86]; decide +kernel
theorem zo_86_119 : zzOp 86 119 = some (.iload_n 1, 1) := by unfold zzOp; rw [zm_86]; decide +kernel
theorem zo_86_120 : zzOp 86 120 = some (.invokevirtual 117, 3) := by unfold zzOp; rw [zm_86]; decide +kernel
theorem zo_86_123 : zzOp 86 123 = some (.ireturn, 1) := by unfold zzOp; rw [zm_86]; decide +kernel
theorem zo_86_124 : zzOp 86 124 = some (.aload_n 0, 1) := by unfold zzOp; rw [zm_86]; decide +kernel
theorem zo_86_125 : zzOp 86 125 = some (.getfield 28, 3) := by unfold zzOp; rw [zm_86]; decide +kernel
theorem zo_86_128 : zzOp 86 128 = some (.iload_n 1, 1) := by unfold zzOp; rw [zm_86]; decide +kernel
theorem zo_86_129 : zzOp 86 129 = some (.invokevirtual 133, 3) := by unfold zzOp; rw [zm_86]; decide +kernel
theorem zo_86_132 : zzOp 86 132 = some (.ireturn, 1) := by unfold zzOp; rw [zm_86]; decide +kernel
theorem zo_86_133 : zzOp 86 133 = some (.aload_n 0, 1) := by unfold zzOp; rw [zm_86]; decide +kernel
theorem zo_86_134 : zzOp 86 134 = some (.getfield 28, 3) := by unfold zzOp; rw [zm_86]; decide +kernel
theorem zo_86_137 : zzOp 86 137 = some (.iload_n 1, 1) := by unfold zzOp; rw [zm_86]; decide +kernel
theorem zo_86_138 : zzOp 86 138 = some (.aload_n 0, 1) := by unfold zzOp; rw [zm_86]; decide +kernel
theorem zo_86_139 : zzOp 86 139 = some (.getfield 28, 3) := by unfold zzOp; rw [zm_86]; decide +kernel
theorem zo_86_142 : zzOp 86 142 = some (.getfield 101, 3) := by unfold zzOp; rw [zm_86]; decide +kernel
theorem zo_86_145 : zzOp 86 145 = some (.invokevirtual 136, 3) := by unfold zzOp; rw [zm_86]; decide +kernel
theorem zo_86_148 : zzOp 86 148 = some (.ireturn, 1) := by unfold zzOp; rw [zm_86]; decide +kernel
theorem zo_86_149 : zzOp 86 149 = some (.aload_n 0, 1) := by unfold zzOp; rw [zm_86]; decide +kernel
theorem zo_86_150 : zzOp 86 150 = some (.getfield 28, 3) := by unfold zzOp; rw [zm_86]; decide +kernel
theorem zo_86_153 : zzOp 86 153 = some (.iload_n 1, 1) := by unfold zzOp; rw [zm_86]; decide +kernel
theorem zo_86_154 : zzOp 86 154 = some (.invokevirtual 139, 3) := by unfold zzOp; rw [zm_86]; decide +kernel
theorem zo_86_157 : zzOp 86 157 = some (.ireturn, 1) := by unfold zzOp; rw [zm_86]; decide +kernel
theorem zo_86_158 : zzOp 86 158 = some (.aload_n 0, 1) := by unfold zzOp; rw [zm_86]; decide +kernel
theorem zo_86_159 : zzOp 86 159 = some (.getfield 28, 3) := by unfold zzOp; rw [zm_86]; decide +kernel
theorem zo_86_162 : zzOp 86 162 = some (.iload_n 1, 1) := by unfold zzOp; rw [zm_86]; decide +kernel
theorem zo_86_163 : zzOp 86 163 = some (.invokevirtual 142, 3) := by unfold zzOp; rw [zm_86]; decide +kernel
theorem zo_86_166 : zzOp 86 166 = some (.ifCond .eq 7, 3) := by unfold zzOp; rw [zm_86]; decide +kernel
theorem zo_86_169 : zzOp 86 169 = some (.iconst 1, 1) := by unfold zzOp; rw [zm_86]; decide +kernel
theorem zo_86_170 : zzOp 86 170 = some (.goto 4, 3) := by unfold zzOp; rw [zm_86]; decide +kernel
theorem zo_86_173 : zzOp 86 173 = some (.iconst 0, 1) := by unfold zzOp; rw [zm_86]; decide +kernel
theorem zo_86_174 : zzOp 86 174 = some (.ireturn, 1) := by unfold zzOp; rw [zm_86]; decide +kernel
theorem zo_86_175 : zzOp 86 175 = some (.bipush (-2), 2) := by unfold zzOp; rw [zm_86]; decide +kernel
theorem zo_86_177 : zzOp 86 177 = some (.ireturn, 1) := by unfold zzOp; rw [zm_86]; decide +kernel
theorem zf_86_28 : zzGet zzFL (zzM 86).2.2.2.2.1 28 = some (6, 2) := by rw [zm_86]; decide +kernel
theorem zf_86_101 : zzGet zzFL (zzM 86).2.2.2.2.1 101 = some (0, 1) := by rw [zm_86]; decide +kernel
theorem zf_86_105 : zzGet zzFL (zzM 86).2.2.2.2.1 105 = some (0, 2) := by rw [zm_86]; decide +kernel
theorem zl_86_86 : zzGet zzML (zzM 86).2.2.2.2.1 86 = some (2, 2) := by rw [zm_86]; decide +kernel
theorem zl_86_117 : zzGet zzML (zzM 86).2.2.2.2.1 117 = some (2, 7) := by rw [zm_86]; decide +kernel
theorem zl_86_124 : zzGet zzML (zzM 86).2.2.2.2.1 124 = some (2, 5) := by rw [zm_86]; decide +kernel
theorem zl_86_127 : zzGet zzML (zzM 86).2.2.2.2.1 127 = some (2, 6) := by rw [zm_86]; decide +kernel
theorem zl_86_130 : zzGet zzML (zzM 86).2.2.2.2.1 130 = some (2, 4) := by rw [zm_86]; decide +kernel
theorem zl_86_133 : zzGet zzML (zzM 86).2.2.2.2.1 133 = some (2, 21) := by rw [zm_86]; decide +kernel
theorem zl_86_136 : zzGet zzML (zzM 86).2.2.2.2.1 136 = some (2, 22) := by rw [zm_86]; decide +kernel
theorem zl_86_139 : zzGet zzML (zzM 86).2.2.2.2.1 139 = some (2, 17) := by rw [zm_86]; decide +kernel
theorem zl_86_142 : zzGet zzML (zzM 86).2.2.2.2.1 142 = some (2, 18) := by rw [zm_86]; decide +kernel
theorem zm_87 : zzM 87 = (yX6_who, cX6_who, 2, (some .int), 6, 2, 1, zzc_87) := rfl
theorem zr_87 : (zzM 87).2.2.2.1 = (some .int) := by rw [zm_87]
theorem zo_87_0 : zzOp 87 0 = some (.iload_n 1, 1) := by unfold zzOp; rw [zm_87]; decide +kernel
theorem zo_87_1 : zzOp 87 1 = some (.ifCond .lt 9, 3) := by unfold zzOp; rw [zm_87]; decide +kernel
theorem zo_87_4 : zzOp 87 4 = some (.iload_n 1, 1) := by unfold zzOp; rw [zm_87]; decide +kernel
theorem zo_87_5 : zzOp 87 5 = some (.bipush 24, 2) := by unfold zzOp; rw [zm_87]; decide +kernel
theorem zo_87_7 : zzOp 87 7 = some (.if_icmp .lt 8, 3) := by unfold zzOp; rw [zm_87]; decide +kernel
theorem zo_87_10 : zzOp 87 10 = some (.bipush (-2), 2) := by unfold zzOp; rw [zm_87]; decide +kernel
theorem zo_87_12 : zzOp 87 12 = some (.goto 11, 3) := by unfold zzOp; rw [zm_87]; decide +kernel
theorem zo_87_15 : zzOp 87 15 = some (.aload_n 0, 1) := by unfold zzOp; rw [zm_87]; decide +kernel
theorem zo_87_16 : zzOp 87 16 = some (.getfield 28, 3) := by unfold zzOp; rw [zm_87]; decide +kernel
theorem zo_87_19 : zzOp 87 19 = some (.iload_n 1, 1) := by unfold zzOp; rw [zm_87]; decide +kernel
theorem zo_87_20 : zzOp 87 20 = some (.invokevirtual 114, 3) := by unfold zzOp; rw [zm_87]; decide +kernel
theorem zo_87_23 : zzOp 87 23 = some (.ireturn, 1) := by unfold zzOp; rw [zm_87]; decide +kernel
theorem zf_87_28 : zzGet zzFL (zzM 87).2.2.2.2.1 28 = some (6, 2) := by rw [zm_87]; decide +kernel
theorem zl_87_114 : zzGet zzML (zzM 87).2.2.2.2.1 114 = some (2, 9) := by rw [zm_87]; decide +kernel
theorem zm_88 : zzM 88 = (yX6_feed, cX6_feed, 2, (some .int), 6, 2, 1, zzc_88) := rfl
theorem zr_88 : (zzM 88).2.2.2.1 = (some .int) := by rw [zm_88]
theorem zo_88_0 : zzOp 88 0 = some (.iload_n 1, 1) := by unfold zzOp; rw [zm_88]; decide +kernel
theorem zo_88_1 : zzOp 88 1 = some (.ifCond .lt 10, 3) := by unfold zzOp; rw [zm_88]; decide +kernel
theorem zo_88_4 : zzOp 88 4 = some (.iload_n 1, 1) := by unfold zzOp; rw [zm_88]; decide +kernel
theorem zo_88_5 : zzOp 88 5 = some (.sipush 255, 3) := by unfold zzOp; rw [zm_88]; decide +kernel
theorem zo_88_8 : zzOp 88 8 = some (.if_icmp .le 6, 3) := by unfold zzOp; rw [zm_88]; decide +kernel
theorem zo_88_11 : zzOp 88 11 = some (.bipush (-2), 2) := by unfold zzOp; rw [zm_88]; decide +kernel
theorem zo_88_13 : zzOp 88 13 = some (.ireturn, 1) := by unfold zzOp; rw [zm_88]; decide +kernel
theorem zo_88_14 : zzOp 88 14 = some (.aload_n 0, 1) := by unfold zzOp; rw [zm_88]; decide +kernel
theorem zo_88_15 : zzOp 88 15 = some (.getfield 21, 3) := by unfold zzOp; rw [zm_88]; decide +kernel
theorem zo_88_18 : zzOp 88 18 = some (.getfield 145, 3) := by unfold zzOp; rw [zm_88]; decide +kernel
theorem zo_88_21 : zzOp 88 21 = some (.sipush 160, 3) := by unfold zzOp; rw [zm_88]; decide +kernel
theorem zo_88_24 : zzOp 88 24 = some (.if_icmp .lt 8, 3) := by unfold zzOp; rw [zm_88]; decide +kernel
theorem zo_88_27 : zzOp 88 27 = some (.bipush (-4), 2) := by unfold zzOp; rw [zm_88]; decide +kernel
theorem zo_88_29 : zzOp 88 29 = some (.goto 11, 3) := by unfold zzOp; rw [zm_88]; decide +kernel
theorem zo_88_32 : zzOp 88 32 = some (.aload_n 0, 1) := by unfold zzOp; rw [zm_88]; decide +kernel
theorem zo_88_33 : zzOp 88 33 = some (.getfield 21, 3) := by unfold zzOp; rw [zm_88]; decide +kernel
theorem zo_88_36 : zzOp 88 36 = some (.iload_n 1, 1) := by unfold zzOp; rw [zm_88]; decide +kernel
theorem zo_88_37 : zzOp 88 37 = some (.invokevirtual 75, 3) := by unfold zzOp; rw [zm_88]; decide +kernel
theorem zo_88_40 : zzOp 88 40 = some (.ireturn, 1) := by unfold zzOp; rw [zm_88]; decide +kernel
theorem zf_88_21 : zzGet zzFL (zzM 88).2.2.2.2.1 21 = some (6, 1) := by rw [zm_88]; decide +kernel
theorem zf_88_145 : zzGet zzFL (zzM 88).2.2.2.2.1 145 = some (2, 2) := by rw [zm_88]; decide +kernel
theorem zl_88_75 : zzGet zzML (zzM 88).2.2.2.2.1 75 = some (2, 40) := by rw [zm_88]; decide +kernel
theorem zm_89 : zzM 89 = (yX6_text, cX6_text, 2, (some .int), 6, 1, 1, zzc_89) := rfl
theorem zr_89 : (zzM 89).2.2.2.1 = (some .int) := by rw [zm_89]
theorem zo_89_0 : zzOp 89 0 = some (.aload_n 0, 1) := by unfold zzOp; rw [zm_89]; decide +kernel
theorem zo_89_1 : zzOp 89 1 = some (.getfield 12, 3) := by unfold zzOp; rw [zm_89]; decide +kernel
theorem zo_89_4 : zzOp 89 4 = some (.getfield 146, 3) := by unfold zzOp; rw [zm_89]; decide +kernel
theorem zo_89_7 : zzOp 89 7 = some (.bipush 6, 2) := by unfold zzOp; rw [zm_89]; decide +kernel
theorem zo_89_9 : zzOp 89 9 = some (.if_icmp .lt 6, 3) := by unfold zzOp; rw [zm_89]; decide +kernel
theorem zo_89_12 : zzOp 89 12 = some (.bipush (-4), 2) := by unfold zzOp; rw [zm_89]; decide +kernel
theorem zo_89_14 : zzOp 89 14 = some (.ireturn, 1) := by unfold zzOp; rw [zm_89]; decide +kernel
theorem zo_89_15 : zzOp 89 15 = some (.aload_n 0, 1) := by unfold zzOp; rw [zm_89]; decide +kernel
theorem zo_89_16 : zzOp 89 16 = some (.getfield 21, 3) := by unfold zzOp; rw [zm_89]; decide +kernel
theorem zo_89_19 : zzOp 89 19 = some (.invokevirtual 79, 3) := by unfold zzOp; rw [zm_89]; decide +kernel
theorem zo_89_22 : zzOp 89 22 = some (.istore_n 1, 1) := by unfold zzOp; rw [zm_89]; decide +kernel
theorem zo_89_23 : zzOp 89 23 = some (.iload_n 1, 1) := by unfold zzOp; rw [zm_89]; decide +kernel
theorem zo_89_24 : zzOp 89 24 = some (.iconst (-1), 1) := by unfold zzOp; rw [zm_89]; decide +kernel
theorem zo_89_25 : zzOp 89 25 = some (.if_icmp .ne 15, 3) := by unfold zzOp; rw [zm_89]; decide +kernel
theorem zo_89_28 : zzOp 89 28 = some (.aload_n 0, 1) := by unfold zzOp; rw [zm_89]; decide +kernel
theorem zo_89_29 : zzOp 89 29 = some (.getfield 12, 3) := by unfold zzOp; rw [zm_89]; decide +kernel
theorem zo_89_32 : zzOp 89 32 = some (.getfield 146, 3) := by unfold zzOp; rw [zm_89]; decide +kernel
theorem zo_89_35 : zzOp 89 35 = some (.iconst 1, 1) := by unfold zzOp; rw [zm_89]; decide +kernel
theorem zo_89_36 : zzOp 89 36 = some (.isub, 1) := by unfold zzOp; rw [zm_89]; decide +kernel
theorem zo_89_37 : zzOp 89 37 = some (.goto 7, 3) := by unfold zzOp; rw [zm_89]; decide +kernel
theorem zo_89_40 : zzOp 89 40 = some (.bipush (-100), 2) := by unfold zzOp; rw [zm_89]; decide +kernel
theorem zo_89_42 : zzOp 89 42 = some (.iload_n 1, 1) := by unfold zzOp; rw [zm_89]; decide +kernel
theorem zo_89_43 : zzOp 89 43 = some (.isub, 1) := by unfold zzOp; rw [zm_89]; decide +kernel
theorem zo_89_44 : zzOp 89 44 = some (.ireturn, 1) := by unfold zzOp; rw [zm_89]; decide +kernel
theorem zf_89_12 : zzGet zzFL (zzM 89).2.2.2.2.1 12 = some (6, 0) := by rw [zm_89]; decide +kernel
theorem zf_89_21 : zzGet zzFL (zzM 89).2.2.2.2.1 21 = some (6, 1) := by rw [zm_89]; decide +kernel
theorem zf_89_146 : zzGet zzFL (zzM 89).2.2.2.2.1 146 = some (5, 3) := by rw [zm_89]; decide +kernel
theorem zl_89_79 : zzGet zzML (zzM 89).2.2.2.2.1 79 = some (2, 41) := by rw [zm_89]; decide +kernel
theorem zm_90 : zzM 90 = (yX6_force, cX6_force, 3, (some .int), 6, 2, 1, zzc_90) := rfl
theorem zr_90 : (zzM 90).2.2.2.1 = (some .int) := by rw [zm_90]
theorem zo_90_0 : zzOp 90 0 = some (.iload_n 1, 1) := by unfold zzOp; rw [zm_90]; decide +kernel
theorem zo_90_1 : zzOp 90 1 = some (.ifCond .lt 14, 3) := by unfold zzOp; rw [zm_90]; decide +kernel
theorem zo_90_4 : zzOp 90 4 = some (.iload_n 1, 1) := by unfold zzOp; rw [zm_90]; decide +kernel
theorem zo_90_5 : zzOp 90 5 = some (.aload_n 0, 1) := by unfold zzOp; rw [zm_90]; decide +kernel
theorem zo_90_6 : zzOp 90 6 = some (.getfield 12, 3) := by unfold zzOp; rw [zm_90]; decide +kernel
theorem zo_90_9 : zzOp 90 9 = some (.getfield 146, 3) := by unfold zzOp; rw [zm_90]; decide +kernel
theorem zo_90_12 : zzOp 90 12 = some (.if_icmp .lt 6, 3) := by unfold zzOp; rw [zm_90]; decide +kernel
theorem zo_90_15 : zzOp 90 15 = some (.bipush (-2), 2) := by unfold zzOp; rw [zm_90]; decide +kernel
theorem zo_90_17 : zzOp 90 17 = some (.ireturn, 1) := by unfold zzOp; rw [zm_90]; decide +kernel
theorem zo_90_18 : zzOp 90 18 = some (.aload_n 0, 1) := by unfold zzOp; rw [zm_90]; decide +kernel
theorem zo_90_19 : zzOp 90 19 = some (.getfield 28, 3) := by unfold zzOp; rw [zm_90]; decide +kernel
theorem zo_90_22 : zzOp 90 22 = some (.getfield 147, 3) := by unfold zzOp; rw [zm_90]; decide +kernel
theorem zo_90_25 : zzOp 90 25 = some (.istore_n 2, 1) := by unfold zzOp; rw [zm_90]; decide +kernel
theorem zo_90_26 : zzOp 90 26 = some (.aload_n 0, 1) := by unfold zzOp; rw [zm_90]; decide +kernel
theorem zo_90_27 : zzOp 90 27 = some (.getfield 28, 3) := by unfold zzOp; rw [zm_90]; decide +kernel
theorem zo_90_30 : zzOp 90 30 = some (.iload_n 1, 1) := by unfold zzOp; rw [zm_90]; decide +kernel
theorem zo_90_31 : zzOp 90 31 = some (.putfield 147, 3) := by unfold zzOp; rw [zm_90]; decide +kernel
theorem zo_90_34 : zzOp 90 34 = some (.iload_n 2, 1) := by unfold zzOp; rw [zm_90]; decide +kernel
theorem zo_90_35 : zzOp 90 35 = some (.ireturn, 1) := by unfold zzOp; rw [zm_90]; decide +kernel
theorem zf_90_12 : zzGet zzFL (zzM 90).2.2.2.2.1 12 = some (6, 0) := by rw [zm_90]; decide +kernel
theorem zf_90_28 : zzGet zzFL (zzM 90).2.2.2.2.1 28 = some (6, 2) := by rw [zm_90]; decide +kernel
theorem zf_90_146 : zzGet zzFL (zzM 90).2.2.2.2.1 146 = some (5, 3) := by rw [zm_90]; decide +kernel
theorem zf_90_147 : zzGet zzFL (zzM 90).2.2.2.2.1 147 = some (0, 3) := by rw [zm_90]; decide +kernel
theorem zm_91 : zzM 91 = (yX6_all, cX6_all, 2, (some .int), 6, 2, 1, zzc_91) := rfl
theorem zr_91 : (zzM 91).2.2.2.1 = (some .int) := by rw [zm_91]
theorem zo_91_0 : zzOp 91 0 = some (.iload_n 1, 1) := by unfold zzOp; rw [zm_91]; decide +kernel
theorem zo_91_1 : zzOp 91 1 = some (.tableswitch 51 0 2 #[27, 35, 43], 27) := by unfold zzOp; rw [zm_91]; decide +kernel
theorem zo_91_28 : zzOp 91 28 = some (.aload_n 0, 1) := by unfold zzOp; rw [zm_91]; decide +kernel
theorem zo_91_29 : zzOp 91 29 = some (.getfield 28, 3) := by unfold zzOp; rw [zm_91]; decide +kernel
theorem zo_91_32 : zzOp 91 32 = some (.invokevirtual 150, 3) := by unfold zzOp; rw [zm_91]; decide +kernel
theorem zo_91_35 : zzOp 91 35 = some (.ireturn, 1) := by unfold zzOp; rw [zm_91]; decide +kernel
theorem zo_91_36 : zzOp 91 36 = some (.aload_n 0, 1) := by unfold zzOp; rw [zm_91]; decide +kernel
theorem zo_91_37 : zzOp 91 37 = some (.getfield 28, 3) := by unfold zzOp; rw [zm_91]; decide +kernel
theorem zo_91_40 : zzOp 91 40 = some (.invokevirtual 153, 3) := by unfold zzOp; rw [zm_91]; decide +kernel
theorem zo_91_43 : zzOp 91 43 = some (.ireturn, 1) := by unfold zzOp; rw [zm_91]; decide +kernel
theorem zo_91_44 : zzOp 91 44 = some (.aload_n 0, 1) := by unfold zzOp; rw [zm_91]; decide +kernel
theorem zo_91_45 : zzOp 91 45 = some (.getfield 28, 3) := by unfold zzOp; rw [zm_91]; decide +kernel
theorem zo_91_48 : zzOp 91 48 = some (.invokevirtual 156, 3) := by unfold zzOp; rw [zm_91]; decide +kernel
theorem zo_91_51 : zzOp 91 51 = some (.ireturn, 1) := by unfold zzOp; rw [zm_91]; decide +kernel
theorem zo_91_52 : zzOp 91 52 = some (.ldc 159, 2) := by unfold zzOp; rw [zm_91]; decide +kernel
theorem zo_91_54 : zzOp 91 54 = some (.ireturn, 1) := by unfold zzOp; rw [zm_91]; decide +kernel
theorem zf_91_28 : zzGet zzFL (zzM 91).2.2.2.2.1 28 = some (6, 2) := by rw [zm_91]; decide +kernel
theorem zl_91_150 : zzGet zzML (zzM 91).2.2.2.2.1 150 = some (2, 24) := by rw [zm_91]; decide +kernel
theorem zl_91_153 : zzGet zzML (zzM 91).2.2.2.2.1 153 = some (2, 25) := by rw [zm_91]; decide +kernel
theorem zl_91_156 : zzGet zzML (zzM 91).2.2.2.2.1 156 = some (2, 27) := by rw [zm_91]; decide +kernel
theorem zc_91_159 : zzGet zzKI (zzM 91).2.2.2.2.1 159 = some (-100000) := by rw [zm_91]; decide +kernel
theorem zc_91_159n : zzGet zzKS (zzM 91).2.2.2.2.1 159 = none := by rw [zm_91]; decide +kernel
theorem zm_92 : zzM 92 = (yX6_ride, cX6_ride, 6, (some .int), 6, 3, 1, zzc_92) := rfl
theorem zr_92 : (zzM 92).2.2.2.1 = (some .int) := by rw [zm_92]
theorem zo_92_0 : zzOp 92 0 = some (.iload_n 2, 1) := by unfold zzOp; rw [zm_92]; decide +kernel
theorem zo_92_1 : zzOp 92 1 = some (.ifCond .eq 8, 3) := by unfold zzOp; rw [zm_92]; decide +kernel
theorem zo_92_4 : zzOp 92 4 = some (.iload_n 2, 1) := by unfold zzOp; rw [zm_92]; decide +kernel
theorem zo_92_5 : zzOp 92 5 = some (.iconst 1, 1) := by unfold zzOp; rw [zm_92]; decide +kernel
theorem zo_92_6 : zzOp 92 6 = some (.if_icmp .ne 7, 3) := by unfold zzOp; rw [zm_92]; decide +kernel
theorem zo_92_9 : zzOp 92 9 = some (.iconst 1, 1) := by unfold zzOp; rw [zm_92]; decide +kernel
theorem zo_92_10 : zzOp 92 10 = some (.goto 4, 3) := by unfold zzOp; rw [zm_92]; decide +kernel
theorem zo_92_13 : zzOp 92 13 = some (.iconst 0, 1) := by unfold zzOp; rw [zm_92]; decide +kernel
theorem zo_92_14 : zzOp 92 14 = some (.istore_n 3, 1) := by unfold zzOp; rw [zm_92]; decide +kernel
theorem zo_92_15 : zzOp 92 15 = some (.iload_n 2, 1) := by unfold zzOp; rw [zm_92]; decide +kernel
theorem zo_92_16 : zzOp 92 16 = some (.bipush 10, 2) := by unfold zzOp; rw [zm_92]; decide +kernel
theorem zo_92_18 : zzOp 92 18 = some (.if_icmp .lt 27, 3) := by unfold zzOp; rw [zm_92]; decide +kernel
theorem zo_92_21 : zzOp 92 21 = some (.iload_n 2, 1) := by unfold zzOp; rw [zm_92]; decide +kernel
theorem zo_92_22 : zzOp 92 22 = some (.bipush 30, 2) := by unfold zzOp; rw [zm_92]; decide +kernel
theorem zo_92_24 : zzOp 92 24 = some (.if_icmp .ge 21, 3) := by unfold zzOp; rw [zm_92]; decide +kernel
theorem zo_92_27 : zzOp 92 27 = some (.aload_n 0, 1) := by unfold zzOp; rw [zm_92]; decide +kernel
theorem zo_92_28 : zzOp 92 28 = some (.getfield 28, 3) := by unfold zzOp; rw [zm_92]; decide +kernel
theorem zo_92_31 : zzOp 92 31 = some (.iload_n 2, 1) := by unfold zzOp; rw [zm_92]; decide +kernel
theorem zo_92_32 : zzOp 92 32 = some (.bipush 10, 2) := by unfold zzOp; rw [zm_92]; decide +kernel
theorem zo_92_34 : zzOp 92 34 = some (.irem, 1) := by unfold zzOp; rw [zm_92]; decide +kernel
theorem zo_92_35 : zzOp 92 35 = some (.invokevirtual 86, 3) := by unfold zzOp; rw [zm_92]; decide +kernel
theorem zo_92_38 : zzOp 92 38 = some (.ifCond .eq 7, 3) := by unfold zzOp; rw [zm_92]; decide +kernel
theorem zo_92_41 : zzOp 92 41 = some (.iconst 1, 1) := by unfold zzOp; rw [zm_92]; decide +kernel
theorem zo_92_42 : zzOp 92 42 = some (.goto 4, 3) := by unfold zzOp; rw [zm_92]; decide +kernel
theorem zo_92_45 : zzOp 92 45 = some (.iconst 0, 1) := by unfold zzOp; rw [zm_92]; decide +kernel
theorem zo_92_46 : zzOp 92 46 = some (.istore 4, 2) := by unfold zzOp; rw [zm_92]; decide +kernel
theorem zo_92_48 : zzOp 92 48 = some (.iload_n 1, 1) := by unfold zzOp; rw [zm_92]; decide +kernel
theorem zo_92_49 : zzOp 92 49 = some (.invokestatic 160, 3) := by unfold zzOp; rw [zm_92]; decide +kernel
theorem zo_92_52 : zzOp 92 52 = some (.ifCond .eq 12, 3) := by unfold zzOp; rw [zm_92]; decide +kernel
theorem zo_92_55 : zzOp 92 55 = some (.iload_n 3, 1) := by unfold zzOp; rw [zm_92]; decide +kernel
theorem zo_92_56 : zzOp 92 56 = some (.ifCond .ne 11, 3) := by unfold zzOp; rw [zm_92]; decide +kernel
theorem zo_92_59 : zzOp 92 59 = some (.iload 4, 2) := by unfold zzOp; rw [zm_92]; decide +kernel
theorem zo_92_61 : zzOp 92 61 = some (.ifCond .ne 6, 3) := by unfold zzOp; rw [zm_92]; decide +kernel
theorem zo_92_64 : zzOp 92 64 = some (.bipush (-2), 2) := by unfold zzOp; rw [zm_92]; decide +kernel
theorem zo_92_66 : zzOp 92 66 = some (.ireturn, 1) := by unfold zzOp; rw [zm_92]; decide +kernel
theorem zo_92_67 : zzOp 92 67 = some (.aload_n 0, 1) := by unfold zzOp; rw [zm_92]; decide +kernel
theorem zo_92_68 : zzOp 92 68 = some (.getfield 45, 3) := by unfold zzOp; rw [zm_92]; decide +kernel
theorem zo_92_71 : zzOp 92 71 = some (.aload_n 0, 1) := by unfold zzOp; rw [zm_92]; decide +kernel
theorem zo_92_72 : zzOp 92 72 = some (.getfield 28, 3) := by unfold zzOp; rw [zm_92]; decide +kernel
theorem zo_92_75 : zzOp 92 75 = some (.iload_n 1, 1) := by unfold zzOp; rw [zm_92]; decide +kernel
theorem zo_92_76 : zzOp 92 76 = some (.invokevirtual 163, 3) := by unfold zzOp; rw [zm_92]; decide +kernel
theorem zo_92_79 : zzOp 92 79 = some (.aload_n 0, 1) := by unfold zzOp; rw [zm_92]; decide +kernel
theorem zo_92_80 : zzOp 92 80 = some (.getfield 45, 3) := by unfold zzOp; rw [zm_92]; decide +kernel
theorem zo_92_83 : zzOp 92 83 = some (.iconst (-1), 1) := by unfold zzOp; rw [zm_92]; decide +kernel
theorem zo_92_84 : zzOp 92 84 = some (.invokevirtual 167, 3) := by unfold zzOp; rw [zm_92]; decide +kernel
theorem zo_92_87 : zzOp 92 87 = some (.istore 5, 2) := by unfold zzOp; rw [zm_92]; decide +kernel
theorem zo_92_89 : zzOp 92 89 = some (.iload_n 3, 1) := by unfold zzOp; rw [zm_92]; decide +kernel
theorem zo_92_90 : zzOp 92 90 = some (.ifCond .eq 20, 3) := by unfold zzOp; rw [zm_92]; decide +kernel
theorem zo_92_93 : zzOp 92 93 = some (.iload_n 2, 1) := by unfold zzOp; rw [zm_92]; decide +kernel
theorem zo_92_94 : zzOp 92 94 = some (.ifCond .ne 8, 3) := by unfold zzOp; rw [zm_92]; decide +kernel
theorem zo_92_97 : zzOp 92 97 = some (.iload 5, 2) := by unfold zzOp; rw [zm_92]; decide +kernel
theorem zo_92_99 : zzOp 92 99 = some (.goto 10, 3) := by unfold zzOp; rw [zm_92]; decide +kernel
theorem zo_92_102 : zzOp 92 102 = some (.aload_n 0, 1) := by unfold zzOp; rw [zm_92]; decide +kernel
theorem zo_92_103 : zzOp 92 103 = some (.getfield 45, 3) := by unfold zzOp; rw [zm_92]; decide +kernel
theorem zo_92_106 : zzOp 92 106 = some (.invokevirtual 170, 3) := by unfold zzOp; rw [zm_92]; decide +kernel
theorem zo_92_109 : zzOp 92 109 = some (.ireturn, 1) := by unfold zzOp; rw [zm_92]; decide +kernel
theorem zo_92_110 : zzOp 92 110 = some (.iload_n 2, 1) := by unfold zzOp; rw [zm_92]; decide +kernel
theorem zo_92_111 : zzOp 92 111 = some (.bipush 20, 2) := by unfold zzOp; rw [zm_92]; decide +kernel
theorem zo_92_113 : zzOp 92 113 = some (.if_icmp .ge 13, 3) := by unfold zzOp; rw [zm_92]; decide +kernel
theorem zo_92_116 : zzOp 92 116 = some (.aload_n 0, 1) := by unfold zzOp; rw [zm_92]; decide +kernel
theorem zo_92_117 : zzOp 92 117 = some (.getfield 45, 3) := by unfold zzOp; rw [zm_92]; decide +kernel
theorem zo_92_120 : zzOp 92 120 = some (.getfield 173, 3) := by unfold zzOp; rw [zm_92]; decide +kernel
theorem zo_92_123 : zzOp 92 123 = some (.goto 10, 3) := by unfold zzOp; rw [zm_92]; decide +kernel
theorem zo_92_126 : zzOp 92 126 = some (.aload_n 0, 1) := by unfold zzOp; rw [zm_92]; decide +kernel
theorem zo_92_127 : zzOp 92 127 = some (.getfield 45, 3) := by unfold zzOp; rw [zm_92]; decide +kernel
theorem zo_92_130 : zzOp 92 130 = some (.getfield 176, 3) := by unfold zzOp; rw [zm_92]; decide +kernel
theorem zo_92_133 : zzOp 92 133 = some (.iload_n 2, 1) := by unfold zzOp; rw [zm_92]; decide +kernel
theorem zo_92_134 : zzOp 92 134 = some (.bipush 10, 2) := by unfold zzOp; rw [zm_92]; decide +kernel
theorem zo_92_136 : zzOp 92 136 = some (.irem, 1) := by unfold zzOp; rw [zm_92]; decide +kernel
theorem zo_92_137 : zzOp 92 137 = some (.invokestatic 179, 3) := by unfold zzOp; rw [zm_92]; decide +kernel
theorem zo_92_140 : zzOp 92 140 = some (.ireturn, 1) := by unfold zzOp; rw [zm_92]; decide +kernel
theorem zf_92_28 : zzGet zzFL (zzM 92).2.2.2.2.1 28 = some (6, 2) := by rw [zm_92]; decide +kernel
theorem zf_92_45 : zzGet zzFL (zzM 92).2.2.2.2.1 45 = some (6, 6) := by rw [zm_92]; decide +kernel
theorem zf_92_173 : zzGet zzFL (zzM 92).2.2.2.2.1 173 = some (3, 2) := by rw [zm_92]; decide +kernel
theorem zf_92_176 : zzGet zzFL (zzM 92).2.2.2.2.1 176 = some (3, 3) := by rw [zm_92]; decide +kernel
theorem zl_92_86 : zzGet zzML (zzM 92).2.2.2.2.1 86 = some (2, 2) := by rw [zm_92]; decide +kernel
theorem zl_92_160 : zzGet zzML (zzM 92).2.2.2.2.1 160 = some (0, 93) := by rw [zm_92]; decide +kernel
theorem zl_92_163 : zzGet zzML (zzM 92).2.2.2.2.1 163 = some (2, 62) := by rw [zm_92]; decide +kernel
theorem zl_92_167 : zzGet zzML (zzM 92).2.2.2.2.1 167 = some (2, 63) := by rw [zm_92]; decide +kernel
theorem zl_92_170 : zzGet zzML (zzM 92).2.2.2.2.1 170 = some (2, 66) := by rw [zm_92]; decide +kernel
theorem zl_92_179 : zzGet zzML (zzM 92).2.2.2.2.1 179 = some (0, 125) := by rw [zm_92]; decide +kernel
theorem zm_93 : zzM 93 = (yX6_isRide, cX6_isRide, 1, (some .boolean), 6, 1, 0, zzc_93) := rfl
theorem zr_93 : (zzM 93).2.2.2.1 = (some .boolean) := by rw [zm_93]
theorem zo_93_0 : zzOp 93 0 = some (.iload_n 0, 1) := by unfold zzOp; rw [zm_93]; decide +kernel
theorem zo_93_1 : zzOp 93 1 = some (.ifCond .lt 13, 3) := by unfold zzOp; rw [zm_93]; decide +kernel
theorem zo_93_4 : zzOp 93 4 = some (.iload_n 0, 1) := by unfold zzOp; rw [zm_93]; decide +kernel
theorem zo_93_5 : zzOp 93 5 = some (.bipush 60, 2) := by unfold zzOp; rw [zm_93]; decide +kernel
theorem zo_93_7 : zzOp 93 7 = some (.if_icmp .gt 7, 3) := by unfold zzOp; rw [zm_93]; decide +kernel
theorem zo_93_10 : zzOp 93 10 = some (.iconst 1, 1) := by unfold zzOp; rw [zm_93]; decide +kernel
theorem zo_93_11 : zzOp 93 11 = some (.goto 4, 3) := by unfold zzOp; rw [zm_93]; decide +kernel
theorem zo_93_14 : zzOp 93 14 = some (.iconst 0, 1) := by unfold zzOp; rw [zm_93]; decide +kernel
theorem zo_93_15 : zzOp 93 15 = some (.ireturn, 1) := by unfold zzOp; rw [zm_93]; decide +kernel
theorem zm_94 : zzM 94 = (yX6_best, cX6_best, 7, (some .int), 6, 3, 1, zzc_94) := rfl
theorem zr_94 : (zzM 94).2.2.2.1 = (some .int) := by rw [zm_94]
theorem zo_94_0 : zzOp 94 0 = some (.aload_n 0, 1) := by unfold zzOp; rw [zm_94]; decide +kernel
theorem zo_94_1 : zzOp 94 1 = some (.getfield 28, 3) := by unfold zzOp; rw [zm_94]; decide +kernel
theorem zo_94_4 : zzOp 94 4 = some (.iload_n 1, 1) := by unfold zzOp; rw [zm_94]; decide +kernel
theorem zo_94_5 : zzOp 94 5 = some (.invokevirtual 86, 3) := by unfold zzOp; rw [zm_94]; decide +kernel
theorem zo_94_8 : zzOp 94 8 = some (.ifCond .eq 10, 3) := by unfold zzOp; rw [zm_94]; decide +kernel
theorem zo_94_11 : zzOp 94 11 = some (.iload_n 2, 1) := by unfold zzOp; rw [zm_94]; decide +kernel
theorem zo_94_12 : zzOp 94 12 = some (.invokestatic 183, 3) := by unfold zzOp; rw [zm_94]; decide +kernel
theorem zo_94_15 : zzOp 94 15 = some (.ifCond .ne 6, 3) := by unfold zzOp; rw [zm_94]; decide +kernel
theorem zo_94_18 : zzOp 94 18 = some (.bipush (-2), 2) := by unfold zzOp; rw [zm_94]; decide +kernel
theorem zo_94_20 : zzOp 94 20 = some (.ireturn, 1) := by unfold zzOp; rw [zm_94]; decide +kernel
theorem zo_94_21 : zzOp 94 21 = some (.iconst (-1), 1) := by unfold zzOp; rw [zm_94]; decide +kernel
theorem zo_94_22 : zzOp 94 22 = some (.istore_n 3, 1) := by unfold zzOp; rw [zm_94]; decide +kernel
theorem zo_94_23 : zzOp 94 23 = some (.iconst 0, 1) := by unfold zzOp; rw [zm_94]; decide +kernel
theorem zo_94_24 : zzOp 94 24 = some (.istore 4, 2) := by unfold zzOp; rw [zm_94]; decide +kernel
theorem zo_94_26 : zzOp 94 26 = some (.iconst 0, 1) := by unfold zzOp; rw [zm_94]; decide +kernel
theorem zo_94_27 : zzOp 94 27 = some (.istore 5, 2) := by unfold zzOp; rw [zm_94]; decide +kernel
theorem zo_94_29 : zzOp 94 29 = some (.iload 5, 2) := by unfold zzOp; rw [zm_94]; decide +kernel
theorem zo_94_31 : zzOp 94 31 = some (.bipush 24, 2) := by unfold zzOp; rw [zm_94]; decide +kernel
theorem zo_94_33 : zzOp 94 33 = some (.if_icmp .ge 50, 3) := by unfold zzOp; rw [zm_94]; decide +kernel
theorem zo_94_36 : zzOp 94 36 = some (.aload_n 0, 1) := by unfold zzOp; rw [zm_94]; decide +kernel
theorem zo_94_37 : zzOp 94 37 = some (.getfield 28, 3) := by unfold zzOp; rw [zm_94]; decide +kernel
theorem zo_94_40 : zzOp 94 40 = some (.iload 5, 2) := by unfold zzOp; rw [zm_94]; decide +kernel
theorem zo_94_42 : zzOp 94 42 = some (.iload_n 1, 1) := by unfold zzOp; rw [zm_94]; decide +kernel
theorem zo_94_43 : zzOp 94 43 = some (.invokevirtual 186, 3) := by unfold zzOp; rw [zm_94]; decide +kernel
theorem zo_94_46 : zzOp 94 46 = some (.ifCond .eq 31, 3) := by unfold zzOp; rw [zm_94]; decide +kernel
theorem zo_94_49 : zzOp 94 49 = some (.aload_n 0, 1) := by unfold zzOp; rw [zm_94]; decide +kernel
theorem zo_94_50 : zzOp 94 50 = some (.iload_n 1, 1) := by unfold zzOp; rw [zm_94]; decide +kernel
theorem zo_94_51 : zzOp 94 51 = some (.iload 5, 2) := by unfold zzOp; rw [zm_94]; decide +kernel
theorem zo_94_53 : zzOp 94 53 = some (.invokevirtual 190, 3) := by unfold zzOp; rw [zm_94]; decide +kernel
theorem zo_94_56 : zzOp 94 56 = some (.istore 6, 2) := by unfold zzOp; rw [zm_94]; decide +kernel
theorem zo_94_58 : zzOp 94 58 = some (.iload_n 3, 1) := by unfold zzOp; rw [zm_94]; decide +kernel
theorem zo_94_59 : zzOp 94 59 = some (.iconst (-1), 1) := by unfold zzOp; rw [zm_94]; decide +kernel
theorem zo_94_60 : zzOp 94 60 = some (.if_icmp .eq 10, 3) := by unfold zzOp; rw [zm_94]; decide +kernel
theorem zo_94_63 : zzOp 94 63 = some (.iload 6, 2) := by unfold zzOp; rw [zm_94]; decide +kernel
theorem zo_94_65 : zzOp 94 65 = some (.iload 4, 2) := by unfold zzOp; rw [zm_94]; decide +kernel
theorem zo_94_67 : zzOp 94 67 = some (.if_icmp .ge 10, 3) := by unfold zzOp; rw [zm_94]; decide +kernel
theorem zo_94_70 : zzOp 94 70 = some (.iload 5, 2) := by unfold zzOp; rw [zm_94]; decide +kernel
theorem zo_94_72 : zzOp 94 72 = some (.istore_n 3, 1) := by unfold zzOp; rw [zm_94]; decide +kernel
theorem zo_94_73 : zzOp 94 73 = some (.iload 6, 2) := by unfold zzOp; rw [zm_94]; decide +kernel
theorem zo_94_75 : zzOp 94 75 = some (.istore 4, 2) := by unfold zzOp; rw [zm_94]; decide +kernel
theorem zo_94_77 : zzOp 94 77 = some (.iinc 5 1, 3) := by unfold zzOp; rw [zm_94]; decide +kernel
theorem zo_94_80 : zzOp 94 80 = some (.goto (-51), 3) := by unfold zzOp; rw [zm_94]; decide +kernel
theorem zo_94_83 : zzOp 94 83 = some (.iload_n 2, 1) := by unfold zzOp; rw [zm_94]; decide +kernel
theorem zo_94_84 : zzOp 94 84 = some (.ifCond .ne 7, 3) := by unfold zzOp; rw [zm_94]; decide +kernel
theorem zo_94_87 : zzOp 94 87 = some (.iload_n 3, 1) := by unfold zzOp; rw [zm_94]; decide +kernel
theorem zo_94_88 : zzOp 94 88 = some (.goto 5, 3) := by unfold zzOp; rw [zm_94]; decide +kernel
theorem zo_94_91 : zzOp 94 91 = some (.iload 4, 2) := by unfold zzOp; rw [zm_94]; decide +kernel
theorem zo_94_93 : zzOp 94 93 = some (.ireturn, 1) := by unfold zzOp; rw [zm_94]; decide +kernel
theorem zf_94_28 : zzGet zzFL (zzM 94).2.2.2.2.1 28 = some (6, 2) := by rw [zm_94]; decide +kernel
theorem zl_94_86 : zzGet zzML (zzM 94).2.2.2.2.1 86 = some (2, 2) := by rw [zm_94]; decide +kernel
theorem zl_94_183 : zzGet zzML (zzM 94).2.2.2.2.1 183 = some (0, 100) := by rw [zm_94]; decide +kernel
theorem zl_94_186 : zzGet zzML (zzM 94).2.2.2.2.1 186 = some (2, 10) := by rw [zm_94]; decide +kernel
theorem zl_94_190 : zzGet zzML (zzM 94).2.2.2.2.1 190 = some (2, 101) := by rw [zm_94]; decide +kernel
theorem zm_95 : zzM 95 = (yX6_change, cX6_change, 7, (some .int), 6, 2, 1, zzc_95) := rfl
theorem zr_95 : (zzM 95).2.2.2.1 = (some .int) := by rw [zm_95]
theorem zo_95_0 : zzOp 95 0 = some (.iload_n 1, 1) := by unfold zzOp; rw [zm_95]; decide +kernel
theorem zo_95_1 : zzOp 95 1 = some (.invokestatic 183, 3) := by unfold zzOp; rw [zm_95]; decide +kernel
theorem zo_95_4 : zzOp 95 4 = some (.ifCond .ne 6, 3) := by unfold zzOp; rw [zm_95]; decide +kernel
theorem zo_95_7 : zzOp 95 7 = some (.bipush (-2), 2) := by unfold zzOp; rw [zm_95]; decide +kernel
theorem zo_95_9 : zzOp 95 9 = some (.ireturn, 1) := by unfold zzOp; rw [zm_95]; decide +kernel
theorem zo_95_10 : zzOp 95 10 = some (.iconst (-1), 1) := by unfold zzOp; rw [zm_95]; decide +kernel
theorem zo_95_11 : zzOp 95 11 = some (.istore_n 2, 1) := by unfold zzOp; rw [zm_95]; decide +kernel
theorem zo_95_12 : zzOp 95 12 = some (.aload_n 0, 1) := by unfold zzOp; rw [zm_95]; decide +kernel
theorem zo_95_13 : zzOp 95 13 = some (.getfield 28, 3) := by unfold zzOp; rw [zm_95]; decide +kernel
theorem zo_95_16 : zzOp 95 16 = some (.invokevirtual 150, 3) := by unfold zzOp; rw [zm_95]; decide +kernel
theorem zo_95_19 : zzOp 95 19 = some (.istore_n 3, 1) := by unfold zzOp; rw [zm_95]; decide +kernel
theorem zo_95_20 : zzOp 95 20 = some (.iconst 0, 1) := by unfold zzOp; rw [zm_95]; decide +kernel
theorem zo_95_21 : zzOp 95 21 = some (.istore 4, 2) := by unfold zzOp; rw [zm_95]; decide +kernel
theorem zo_95_23 : zzOp 95 23 = some (.iload 4, 2) := by unfold zzOp; rw [zm_95]; decide +kernel
theorem zo_95_25 : zzOp 95 25 = some (.aload_n 0, 1) := by unfold zzOp; rw [zm_95]; decide +kernel
theorem zo_95_26 : zzOp 95 26 = some (.getfield 28, 3) := by unfold zzOp; rw [zm_95]; decide +kernel
theorem zo_95_29 : zzOp 95 29 = some (.getfield 108, 3) := by unfold zzOp; rw [zm_95]; decide +kernel
theorem zo_95_32 : zzOp 95 32 = some (.if_icmp .ge 89, 3) := by unfold zzOp; rw [zm_95]; decide +kernel
theorem zo_95_35 : zzOp 95 35 = some (.iload 4, 2) := by unfold zzOp; rw [zm_95]; decide +kernel
theorem zo_95_37 : zzOp 95 37 = some (.iconst 1, 1) := by unfold zzOp; rw [zm_95]; decide +kernel
theorem zo_95_38 : zzOp 95 38 = some (.iadd, 1) := by unfold zzOp; rw [zm_95]; decide +kernel
theorem zo_95_39 : zzOp 95 39 = some (.istore 5, 2) := by unfold zzOp; rw [zm_95]; decide +kernel
theorem zo_95_41 : zzOp 95 41 = some (.iload 5, 2) := by unfold zzOp; rw [zm_95]; decide +kernel
theorem zo_95_43 : zzOp 95 43 = some (.aload_n 0, 1) := by unfold zzOp; rw [zm_95]; decide +kernel
theorem zo_95_44 : zzOp 95 44 = some (.getfield 28, 3) := by unfold zzOp; rw [zm_95]; decide +kernel
theorem zo_95_47 : zzOp 95 47 = some (.getfield 108, 3) := by unfold zzOp; rw [zm_95]; decide +kernel
theorem zo_95_50 : zzOp 95 50 = some (.if_icmp .ge 65, 3) := by unfold zzOp; rw [zm_95]; decide +kernel
theorem zo_95_53 : zzOp 95 53 = some (.aload_n 0, 1) := by unfold zzOp; rw [zm_95]; decide +kernel
theorem zo_95_54 : zzOp 95 54 = some (.getfield 28, 3) := by unfold zzOp; rw [zm_95]; decide +kernel
theorem zo_95_57 : zzOp 95 57 = some (.iload 4, 2) := by unfold zzOp; rw [zm_95]; decide +kernel
theorem zo_95_59 : zzOp 95 59 = some (.invokevirtual 193, 3) := by unfold zzOp; rw [zm_95]; decide +kernel
theorem zo_95_62 : zzOp 95 62 = some (.ifCond .eq 26, 3) := by unfold zzOp; rw [zm_95]; decide +kernel
theorem zo_95_65 : zzOp 95 65 = some (.aload_n 0, 1) := by unfold zzOp; rw [zm_95]; decide +kernel
theorem zo_95_66 : zzOp 95 66 = some (.getfield 28, 3) := by unfold zzOp; rw [zm_95]; decide +kernel
theorem zo_95_69 : zzOp 95 69 = some (.iload 5, 2) := by unfold zzOp; rw [zm_95]; decide +kernel
theorem zo_95_71 : zzOp 95 71 = some (.invokevirtual 193, 3) := by unfold zzOp; rw [zm_95]; decide +kernel
theorem zo_95_74 : zzOp 95 74 = some (.ifCond .eq 14, 3) := by unfold zzOp; rw [zm_95]; decide +kernel
theorem zo_95_77 : zzOp 95 77 = some (.aload_n 0, 1) := by unfold zzOp; rw [zm_95]; decide +kernel
theorem zo_95_78 : zzOp 95 78 = some (.iload 4, 2) := by unfold zzOp; rw [zm_95]; decide +kernel
theorem zo_95_80 : zzOp 95 80 = some (.iload 5, 2) := by unfold zzOp; rw [zm_95]; decide +kernel
theorem zo_95_82 : zzOp 95 82 = some (.invokevirtual 196, 3) := by unfold zzOp; rw [zm_95]; decide +kernel
theorem zo_95_85 : zzOp 95 85 = some (.goto 4, 3) := by unfold zzOp; rw [zm_95]; decide +kernel
theorem zo_95_88 : zzOp 95 88 = some (.iload_n 3, 1) := by unfold zzOp; rw [zm_95]; decide +kernel
theorem zo_95_89 : zzOp 95 89 = some (.istore 6, 2) := by unfold zzOp; rw [zm_95]; decide +kernel
theorem zo_95_91 : zzOp 95 91 = some (.iload 6, 2) := by unfold zzOp; rw [zm_95]; decide +kernel
theorem zo_95_93 : zzOp 95 93 = some (.iload_n 3, 1) := by unfold zzOp; rw [zm_95]; decide +kernel
theorem zo_95_94 : zzOp 95 94 = some (.if_icmp .ge 15, 3) := by unfold zzOp; rw [zm_95]; decide +kernel
theorem zo_95_97 : zzOp 95 97 = some (.bipush 10, 2) := by unfold zzOp; rw [zm_95]; decide +kernel
theorem zo_95_99 : zzOp 95 99 = some (.iload 4, 2) := by unfold zzOp; rw [zm_95]; decide +kernel
theorem zo_95_101 : zzOp 95 101 = some (.imul, 1) := by unfold zzOp; rw [zm_95]; decide +kernel
theorem zo_95_102 : zzOp 95 102 = some (.iload 5, 2) := by unfold zzOp; rw [zm_95]; decide +kernel
theorem zo_95_104 : zzOp 95 104 = some (.iadd, 1) := by unfold zzOp; rw [zm_95]; decide +kernel
theorem zo_95_105 : zzOp 95 105 = some (.istore_n 2, 1) := by unfold zzOp; rw [zm_95]; decide +kernel
theorem zo_95_106 : zzOp 95 106 = some (.iload 6, 2) := by unfold zzOp; rw [zm_95]; decide +kernel
theorem zo_95_108 : zzOp 95 108 = some (.istore_n 3, 1) := by unfold zzOp; rw [zm_95]; decide +kernel
theorem zo_95_109 : zzOp 95 109 = some (.iinc 5 1, 3) := by unfold zzOp; rw [zm_95]; decide +kernel
theorem zo_95_112 : zzOp 95 112 = some (.goto (-71), 3) := by unfold zzOp; rw [zm_95]; decide +kernel
theorem zo_95_115 : zzOp 95 115 = some (.iinc 4 1, 3) := by unfold zzOp; rw [zm_95]; decide +kernel
theorem zo_95_118 : zzOp 95 118 = some (.goto (-95), 3) := by unfold zzOp; rw [zm_95]; decide +kernel
theorem zo_95_121 : zzOp 95 121 = some (.iload_n 1, 1) := by unfold zzOp; rw [zm_95]; decide +kernel
theorem zo_95_122 : zzOp 95 122 = some (.ifCond .ne 7, 3) := by unfold zzOp; rw [zm_95]; decide +kernel
theorem zo_95_125 : zzOp 95 125 = some (.iload_n 2, 1) := by unfold zzOp; rw [zm_95]; decide +kernel
theorem zo_95_126 : zzOp 95 126 = some (.goto 4, 3) := by unfold zzOp; rw [zm_95]; decide +kernel
theorem zo_95_129 : zzOp 95 129 = some (.iload_n 3, 1) := by unfold zzOp; rw [zm_95]; decide +kernel
theorem zo_95_130 : zzOp 95 130 = some (.ireturn, 1) := by unfold zzOp; rw [zm_95]; decide +kernel
theorem zf_95_28 : zzGet zzFL (zzM 95).2.2.2.2.1 28 = some (6, 2) := by rw [zm_95]; decide +kernel
theorem zf_95_108 : zzGet zzFL (zzM 95).2.2.2.2.1 108 = some (0, 4) := by rw [zm_95]; decide +kernel
theorem zl_95_150 : zzGet zzML (zzM 95).2.2.2.2.1 150 = some (2, 24) := by rw [zm_95]; decide +kernel
theorem zl_95_183 : zzGet zzML (zzM 95).2.2.2.2.1 183 = some (0, 100) := by rw [zm_95]; decide +kernel
theorem zl_95_193 : zzGet zzML (zzM 95).2.2.2.2.1 193 = some (2, 8) := by rw [zm_95]; decide +kernel
theorem zl_95_196 : zzGet zzML (zzM 95).2.2.2.2.1 196 = some (2, 102) := by rw [zm_95]; decide +kernel
theorem zm_96 : zzM 96 = (yX6_watch, cX6_watch, 9, (some .int), 6, 2, 1, zzc_96) := rfl
theorem zr_96 : (zzM 96).2.2.2.1 = (some .int) := by rw [zm_96]
theorem zo_96_0 : zzOp 96 0 = some (.iload_n 1, 1) := by unfold zzOp; rw [zm_96]; decide +kernel
theorem zo_96_1 : zzOp 96 1 = some (.invokestatic 183, 3) := by unfold zzOp; rw [zm_96]; decide +kernel
theorem zo_96_4 : zzOp 96 4 = some (.ifCond .ne 6, 3) := by unfold zzOp; rw [zm_96]; decide +kernel
theorem zo_96_7 : zzOp 96 7 = some (.bipush (-2), 2) := by unfold zzOp; rw [zm_96]; decide +kernel
theorem zo_96_9 : zzOp 96 9 = some (.ireturn, 1) := by unfold zzOp; rw [zm_96]; decide +kernel
theorem zo_96_10 : zzOp 96 10 = some (.aload_n 0, 1) := by unfold zzOp; rw [zm_96]; decide +kernel
theorem zo_96_11 : zzOp 96 11 = some (.getfield 28, 3) := by unfold zzOp; rw [zm_96]; decide +kernel
theorem zo_96_14 : zzOp 96 14 = some (.invokevirtual 199, 3) := by unfold zzOp; rw [zm_96]; decide +kernel
theorem zo_96_17 : zzOp 96 17 = some (.istore_n 2, 1) := by unfold zzOp; rw [zm_96]; decide +kernel
theorem zo_96_18 : zzOp 96 18 = some (.iconst (-1), 1) := by unfold zzOp; rw [zm_96]; decide +kernel
theorem zo_96_19 : zzOp 96 19 = some (.istore_n 3, 1) := by unfold zzOp; rw [zm_96]; decide +kernel
theorem zo_96_20 : zzOp 96 20 = some (.aload_n 0, 1) := by unfold zzOp; rw [zm_96]; decide +kernel
theorem zo_96_21 : zzOp 96 21 = some (.getfield 28, 3) := by unfold zzOp; rw [zm_96]; decide +kernel
theorem zo_96_24 : zzOp 96 24 = some (.invokevirtual 150, 3) := by unfold zzOp; rw [zm_96]; decide +kernel
theorem zo_96_27 : zzOp 96 27 = some (.istore 4, 2) := by unfold zzOp; rw [zm_96]; decide +kernel
theorem zo_96_29 : zzOp 96 29 = some (.iconst 0, 1) := by unfold zzOp; rw [zm_96]; decide +kernel
theorem zo_96_30 : zzOp 96 30 = some (.istore 5, 2) := by unfold zzOp; rw [zm_96]; decide +kernel
theorem zo_96_32 : zzOp 96 32 = some (.iload 5, 2) := by unfold zzOp; rw [zm_96]; decide +kernel
theorem zo_96_34 : zzOp 96 34 = some (.aload_n 0, 1) := by unfold zzOp; rw [zm_96]; decide +kernel
theorem zo_96_35 : zzOp 96 35 = some (.getfield 28, 3) := by unfold zzOp; rw [zm_96]; decide +kernel
theorem zo_96_38 : zzOp 96 38 = some (.getfield 108, 3) := by unfold zzOp; rw [zm_96]; decide +kernel
theorem zo_96_41 : zzOp 96 41 = some (.if_icmp .ge 114, 3) := by unfold zzOp; rw [zm_96]; decide +kernel
theorem zo_96_44 : zzOp 96 44 = some (.aload_n 0, 1) := by unfold zzOp; rw [zm_96]; decide +kernel
theorem zo_96_45 : zzOp 96 45 = some (.getfield 28, 3) := by unfold zzOp; rw [zm_96]; decide +kernel
theorem zo_96_48 : zzOp 96 48 = some (.iload 5, 2) := by unfold zzOp; rw [zm_96]; decide +kernel
theorem zo_96_50 : zzOp 96 50 = some (.invokevirtual 193, 3) := by unfold zzOp; rw [zm_96]; decide +kernel
theorem zo_96_53 : zzOp 96 53 = some (.ifCond .eq 19, 3) := by unfold zzOp; rw [zm_96]; decide +kernel
theorem zo_96_56 : zzOp 96 56 = some (.aload_n 0, 1) := by unfold zzOp; rw [zm_96]; decide +kernel
theorem zo_96_57 : zzOp 96 57 = some (.getfield 28, 3) := by unfold zzOp; rw [zm_96]; decide +kernel
theorem zo_96_60 : zzOp 96 60 = some (.iload 5, 2) := by unfold zzOp; rw [zm_96]; decide +kernel
theorem zo_96_62 : zzOp 96 62 = some (.invokevirtual 202, 3) := by unfold zzOp; rw [zm_96]; decide +kernel
theorem zo_96_65 : zzOp 96 65 = some (.ifCond .ne 7, 3) := by unfold zzOp; rw [zm_96]; decide +kernel
theorem zo_96_68 : zzOp 96 68 = some (.iconst 1, 1) := by unfold zzOp; rw [zm_96]; decide +kernel
theorem zo_96_69 : zzOp 96 69 = some (.goto 4, 3) := by unfold zzOp; rw [zm_96]; decide +kernel
theorem zo_96_72 : zzOp 96 72 = some (.iconst 0, 1) := by unfold zzOp; rw [zm_96]; decide +kernel
theorem zo_96_73 : zzOp 96 73 = some (.istore 6, 2) := by unfold zzOp; rw [zm_96]; decide +kernel
theorem zo_96_75 : zzOp 96 75 = some (.iconst 0, 1) := by unfold zzOp; rw [zm_96]; decide +kernel
theorem zo_96_76 : zzOp 96 76 = some (.istore 7, 2) := by unfold zzOp; rw [zm_96]; decide +kernel
theorem zo_96_78 : zzOp 96 78 = some (.iload 7, 2) := by unfold zzOp; rw [zm_96]; decide +kernel
theorem zo_96_80 : zzOp 96 80 = some (.aload_n 0, 1) := by unfold zzOp; rw [zm_96]; decide +kernel
theorem zo_96_81 : zzOp 96 81 = some (.getfield 28, 3) := by unfold zzOp; rw [zm_96]; decide +kernel
theorem zo_96_84 : zzOp 96 84 = some (.getfield 108, 3) := by unfold zzOp; rw [zm_96]; decide +kernel
theorem zo_96_87 : zzOp 96 87 = some (.if_icmp .ge 62, 3) := by unfold zzOp; rw [zm_96]; decide +kernel
theorem zo_96_90 : zzOp 96 90 = some (.iload 6, 2) := by unfold zzOp; rw [zm_96]; decide +kernel
theorem zo_96_92 : zzOp 96 92 = some (.ifCond .eq 57, 3) := by unfold zzOp; rw [zm_96]; decide +kernel
theorem zo_96_95 : zzOp 96 95 = some (.aload_n 0, 1) := by unfold zzOp; rw [zm_96]; decide +kernel
theorem zo_96_96 : zzOp 96 96 = some (.getfield 28, 3) := by unfold zzOp; rw [zm_96]; decide +kernel
theorem zo_96_99 : zzOp 96 99 = some (.iload 7, 2) := by unfold zzOp; rw [zm_96]; decide +kernel
theorem zo_96_101 : zzOp 96 101 = some (.iload_n 2, 1) := by unfold zzOp; rw [zm_96]; decide +kernel
theorem zo_96_102 : zzOp 96 102 = some (.invokevirtual 205, 3) := by unfold zzOp; rw [zm_96]; decide +kernel
theorem zo_96_105 : zzOp 96 105 = some (.ifCond .eq 14, 3) := by unfold zzOp; rw [zm_96]; decide +kernel
theorem zo_96_108 : zzOp 96 108 = some (.aload_n 0, 1) := by unfold zzOp; rw [zm_96]; decide +kernel
theorem zo_96_109 : zzOp 96 109 = some (.iload 5, 2) := by unfold zzOp; rw [zm_96]; decide +kernel
theorem zo_96_111 : zzOp 96 111 = some (.iload 7, 2) := by unfold zzOp; rw [zm_96]; decide +kernel
theorem zo_96_113 : zzOp 96 113 = some (.invokevirtual 196, 3) := by unfold zzOp; rw [zm_96]; decide +kernel
theorem zo_96_116 : zzOp 96 116 = some (.goto 5, 3) := by unfold zzOp; rw [zm_96]; decide +kernel
theorem zo_96_119 : zzOp 96 119 = some (.iload 4, 2) := by unfold zzOp; rw [zm_96]; decide +kernel
theorem zo_96_121 : zzOp 96 121 = some (.istore 8, 2) := by unfold zzOp; rw [zm_96]; decide +kernel
theorem zo_96_123 : zzOp 96 123 = some (.iload 8, 2) := by unfold zzOp; rw [zm_96]; decide +kernel
theorem zo_96_125 : zzOp 96 125 = some (.iload 4, 2) := by unfold zzOp; rw [zm_96]; decide +kernel
theorem zo_96_127 : zzOp 96 127 = some (.if_icmp .ge 16, 3) := by unfold zzOp; rw [zm_96]; decide +kernel
theorem zo_96_130 : zzOp 96 130 = some (.bipush 10, 2) := by unfold zzOp; rw [zm_96]; decide +kernel
theorem zo_96_132 : zzOp 96 132 = some (.iload 5, 2) := by unfold zzOp; rw [zm_96]; decide +kernel
theorem zo_96_134 : zzOp 96 134 = some (.imul, 1) := by unfold zzOp; rw [zm_96]; decide +kernel
theorem zo_96_135 : zzOp 96 135 = some (.iload 7, 2) := by unfold zzOp; rw [zm_96]; decide +kernel
theorem zo_96_137 : zzOp 96 137 = some (.iadd, 1) := by unfold zzOp; rw [zm_96]; decide +kernel
theorem zo_96_138 : zzOp 96 138 = some (.istore_n 3, 1) := by unfold zzOp; rw [zm_96]; decide +kernel
theorem zo_96_139 : zzOp 96 139 = some (.iload 8, 2) := by unfold zzOp; rw [zm_96]; decide +kernel
theorem zo_96_141 : zzOp 96 141 = some (.istore 4, 2) := by unfold zzOp; rw [zm_96]; decide +kernel
theorem zo_96_143 : zzOp 96 143 = some (.iinc 7 1, 3) := by unfold zzOp; rw [zm_96]; decide +kernel
theorem zo_96_146 : zzOp 96 146 = some (.goto (-68), 3) := by unfold zzOp; rw [zm_96]; decide +kernel
theorem zo_96_149 : zzOp 96 149 = some (.iinc 5 1, 3) := by unfold zzOp; rw [zm_96]; decide +kernel
theorem zo_96_152 : zzOp 96 152 = some (.goto (-120), 3) := by unfold zzOp; rw [zm_96]; decide +kernel
theorem zo_96_155 : zzOp 96 155 = some (.iload_n 1, 1) := by unfold zzOp; rw [zm_96]; decide +kernel
theorem zo_96_156 : zzOp 96 156 = some (.ifCond .ne 7, 3) := by unfold zzOp; rw [zm_96]; decide +kernel
theorem zo_96_159 : zzOp 96 159 = some (.iload_n 3, 1) := by unfold zzOp; rw [zm_96]; decide +kernel
theorem zo_96_160 : zzOp 96 160 = some (.goto 5, 3) := by unfold zzOp; rw [zm_96]; decide +kernel
theorem zo_96_163 : zzOp 96 163 = some (.iload 4, 2) := by unfold zzOp; rw [zm_96]; decide +kernel
theorem zo_96_165 : zzOp 96 165 = some (.ireturn, 1) := by unfold zzOp; rw [zm_96]; decide +kernel
theorem zf_96_28 : zzGet zzFL (zzM 96).2.2.2.2.1 28 = some (6, 2) := by rw [zm_96]; decide +kernel
theorem zf_96_108 : zzGet zzFL (zzM 96).2.2.2.2.1 108 = some (0, 4) := by rw [zm_96]; decide +kernel
theorem zl_96_150 : zzGet zzML (zzM 96).2.2.2.2.1 150 = some (2, 24) := by rw [zm_96]; decide +kernel
theorem zl_96_183 : zzGet zzML (zzM 96).2.2.2.2.1 183 = some (0, 100) := by rw [zm_96]; decide +kernel
theorem zl_96_193 : zzGet zzML (zzM 96).2.2.2.2.1 193 = some (2, 8) := by rw [zm_96]; decide +kernel
theorem zl_96_196 : zzGet zzML (zzM 96).2.2.2.2.1 196 = some (2, 102) := by rw [zm_96]; decide +kernel
theorem zl_96_199 : zzGet zzML (zzM 96).2.2.2.2.1 199 = some (2, 15) := by rw [zm_96]; decide +kernel
theorem zl_96_202 : zzGet zzML (zzM 96).2.2.2.2.1 202 = some (2, 19) := by rw [zm_96]; decide +kernel
theorem zl_96_205 : zzGet zzML (zzM 96).2.2.2.2.1 205 = some (2, 16) := by rw [zm_96]; decide +kernel
theorem zm_97 : zzM 97 = (yX6_hat, cX6_hat, 4, (some .int), 6, 3, 1, zzc_97) := rfl
theorem zr_97 : (zzM 97).2.2.2.1 = (some .int) := by rw [zm_97]
theorem zo_97_0 : zzOp 97 0 = some (.aload_n 0, 1) := by unfold zzOp; rw [zm_97]; decide +kernel
theorem zo_97_1 : zzOp 97 1 = some (.iload_n 1, 1) := by unfold zzOp; rw [zm_97]; decide +kernel
theorem zo_97_2 : zzOp 97 2 = some (.invokevirtual 208, 3) := by unfold zzOp; rw [zm_97]; decide +kernel
theorem zo_97_5 : zzOp 97 5 = some (.astore_n 3, 1) := by unfold zzOp; rw [zm_97]; decide +kernel
theorem zo_97_6 : zzOp 97 6 = some (.aload_n 3, 1) := by unfold zzOp; rw [zm_97]; decide +kernel
theorem zo_97_7 : zzOp 97 7 = some (.ifnull 25, 3) := by unfold zzOp; rw [zm_97]; decide +kernel
theorem zo_97_10 : zzOp 97 10 = some (.iload_n 2, 1) := by unfold zzOp; rw [zm_97]; decide +kernel
theorem zo_97_11 : zzOp 97 11 = some (.invokestatic 183, 3) := by unfold zzOp; rw [zm_97]; decide +kernel
theorem zo_97_14 : zzOp 97 14 = some (.ifCond .eq 18, 3) := by unfold zzOp; rw [zm_97]; decide +kernel
theorem zo_97_17 : zzOp 97 17 = some (.aload_n 0, 1) := by unfold zzOp; rw [zm_97]; decide +kernel
theorem zo_97_18 : zzOp 97 18 = some (.getfield 52, 3) := by unfold zzOp; rw [zm_97]; decide +kernel
theorem zo_97_21 : zzOp 97 21 = some (.aload_n 3, 1) := by unfold zzOp; rw [zm_97]; decide +kernel
theorem zo_97_22 : zzOp 97 22 = some (.aload_n 0, 1) := by unfold zzOp; rw [zm_97]; decide +kernel
theorem zo_97_23 : zzOp 97 23 = some (.getfield 28, 3) := by unfold zzOp; rw [zm_97]; decide +kernel
theorem zo_97_26 : zzOp 97 26 = some (.invokevirtual 212, 3) := by unfold zzOp; rw [zm_97]; decide +kernel
theorem zo_97_29 : zzOp 97 29 = some (.ifCond .ne 6, 3) := by unfold zzOp; rw [zm_97]; decide +kernel
theorem zo_97_32 : zzOp 97 32 = some (.ldc 159, 2) := by unfold zzOp; rw [zm_97]; decide +kernel
theorem zo_97_34 : zzOp 97 34 = some (.ireturn, 1) := by unfold zzOp; rw [zm_97]; decide +kernel
theorem zo_97_35 : zzOp 97 35 = some (.aload_n 0, 1) := by unfold zzOp; rw [zm_97]; decide +kernel
theorem zo_97_36 : zzOp 97 36 = some (.getfield 32, 3) := by unfold zzOp; rw [zm_97]; decide +kernel
theorem zo_97_39 : zzOp 97 39 = some (.aload_n 0, 1) := by unfold zzOp; rw [zm_97]; decide +kernel
theorem zo_97_40 : zzOp 97 40 = some (.getfield 28, 3) := by unfold zzOp; rw [zm_97]; decide +kernel
theorem zo_97_43 : zzOp 97 43 = some (.invokevirtual 216, 3) := by unfold zzOp; rw [zm_97]; decide +kernel
theorem zo_97_46 : zzOp 97 46 = some (.aload_n 0, 1) := by unfold zzOp; rw [zm_97]; decide +kernel
theorem zo_97_47 : zzOp 97 47 = some (.getfield 52, 3) := by unfold zzOp; rw [zm_97]; decide +kernel
theorem zo_97_50 : zzOp 97 50 = some (.aload_n 0, 1) := by unfold zzOp; rw [zm_97]; decide +kernel
theorem zo_97_51 : zzOp 97 51 = some (.getfield 32, 3) := by unfold zzOp; rw [zm_97]; decide +kernel
theorem zo_97_54 : zzOp 97 54 = some (.invokevirtual 220, 3) := by unfold zzOp; rw [zm_97]; decide +kernel
theorem zo_97_57 : zzOp 97 57 = some (.iload_n 2, 1) := by unfold zzOp; rw [zm_97]; decide +kernel
theorem zo_97_58 : zzOp 97 58 = some (.ifCond .ne 13, 3) := by unfold zzOp; rw [zm_97]; decide +kernel
theorem zo_97_61 : zzOp 97 61 = some (.aload_n 0, 1) := by unfold zzOp; rw [zm_97]; decide +kernel
theorem zo_97_62 : zzOp 97 62 = some (.getfield 52, 3) := by unfold zzOp; rw [zm_97]; decide +kernel
theorem zo_97_65 : zzOp 97 65 = some (.getfield 223, 3) := by unfold zzOp; rw [zm_97]; decide +kernel
theorem zo_97_68 : zzOp 97 68 = some (.goto 10, 3) := by unfold zzOp; rw [zm_97]; decide +kernel
theorem zo_97_71 : zzOp 97 71 = some (.aload_n 0, 1) := by unfold zzOp; rw [zm_97]; decide +kernel
theorem zo_97_72 : zzOp 97 72 = some (.getfield 52, 3) := by unfold zzOp; rw [zm_97]; decide +kernel
theorem zo_97_75 : zzOp 97 75 = some (.getfield 226, 3) := by unfold zzOp; rw [zm_97]; decide +kernel
theorem zo_97_78 : zzOp 97 78 = some (.ireturn, 1) := by unfold zzOp; rw [zm_97]; decide +kernel
theorem zf_97_28 : zzGet zzFL (zzM 97).2.2.2.2.1 28 = some (6, 2) := by rw [zm_97]; decide +kernel
theorem zf_97_32 : zzGet zzFL (zzM 97).2.2.2.2.1 32 = some (6, 3) := by rw [zm_97]; decide +kernel
theorem zf_97_52 : zzGet zzFL (zzM 97).2.2.2.2.1 52 = some (6, 7) := by rw [zm_97]; decide +kernel
theorem zf_97_223 : zzGet zzFL (zzM 97).2.2.2.2.1 223 = some (1, 4) := by rw [zm_97]; decide +kernel
theorem zf_97_226 : zzGet zzFL (zzM 97).2.2.2.2.1 226 = some (1, 5) := by rw [zm_97]; decide +kernel
theorem zl_97_183 : zzGet zzML (zzM 97).2.2.2.2.1 183 = some (0, 100) := by rw [zm_97]; decide +kernel
theorem zl_97_208 : zzGet zzML (zzM 97).2.2.2.2.1 208 = some (2, 124) := by rw [zm_97]; decide +kernel
theorem zl_97_212 : zzGet zzML (zzM 97).2.2.2.2.1 212 = some (2, 30) := by rw [zm_97]; decide +kernel
theorem zl_97_216 : zzGet zzML (zzM 97).2.2.2.2.1 216 = some (2, 1) := by rw [zm_97]; decide +kernel
theorem zl_97_220 : zzGet zzML (zzM 97).2.2.2.2.1 220 = some (2, 34) := by rw [zm_97]; decide +kernel
theorem zc_97_159 : zzGet zzKI (zzM 97).2.2.2.2.1 159 = some (-100000) := by rw [zm_97]; decide +kernel
theorem zc_97_159n : zzGet zzKS (zzM 97).2.2.2.2.1 159 = none := by rw [zm_97]; decide +kernel
theorem zm_98 : zzM 98 = (yX6_front, cX6_front, 8, (some .int), 6, 3, 1, zzc_98) := rfl
theorem zr_98 : (zzM 98).2.2.2.1 = (some .int) := by rw [zm_98]
theorem zo_98_0 : zzOp 98 0 = some (.iload_n 1, 1) := by unfold zzOp; rw [zm_98]; decide +kernel
theorem zo_98_1 : zzOp 98 1 = some (.invokestatic 160, 3) := by unfold zzOp; rw [zm_98]; decide +kernel
theorem zo_98_4 : zzOp 98 4 = some (.ifCond .eq 10, 3) := by unfold zzOp; rw [zm_98]; decide +kernel
theorem zo_98_7 : zzOp 98 7 = some (.iload_n 2, 1) := by unfold zzOp; rw [zm_98]; decide +kernel
theorem zo_98_8 : zzOp 98 8 = some (.invokestatic 183, 3) := by unfold zzOp; rw [zm_98]; decide +kernel
theorem zo_98_11 : zzOp 98 11 = some (.ifCond .ne 6, 3) := by unfold zzOp; rw [zm_98]; decide +kernel
theorem zo_98_14 : zzOp 98 14 = some (.bipush (-2), 2) := by unfold zzOp; rw [zm_98]; decide +kernel
theorem zo_98_16 : zzOp 98 16 = some (.ireturn, 1) := by unfold zzOp; rw [zm_98]; decide +kernel
theorem zo_98_17 : zzOp 98 17 = some (.aload_n 0, 1) := by unfold zzOp; rw [zm_98]; decide +kernel
theorem zo_98_18 : zzOp 98 18 = some (.getfield 28, 3) := by unfold zzOp; rw [zm_98]; decide +kernel
theorem zo_98_21 : zzOp 98 21 = some (.invokevirtual 229, 3) := by unfold zzOp; rw [zm_98]; decide +kernel
theorem zo_98_24 : zzOp 98 24 = some (.istore_n 3, 1) := by unfold zzOp; rw [zm_98]; decide +kernel
theorem zo_98_25 : zzOp 98 25 = some (.iconst (-1), 1) := by unfold zzOp; rw [zm_98]; decide +kernel
theorem zo_98_26 : zzOp 98 26 = some (.istore 4, 2) := by unfold zzOp; rw [zm_98]; decide +kernel
theorem zo_98_28 : zzOp 98 28 = some (.aload_n 0, 1) := by unfold zzOp; rw [zm_98]; decide +kernel
theorem zo_98_29 : zzOp 98 29 = some (.getfield 45, 3) := by unfold zzOp; rw [zm_98]; decide +kernel
theorem zo_98_32 : zzOp 98 32 = some (.aload_n 0, 1) := by unfold zzOp; rw [zm_98]; decide +kernel
theorem zo_98_33 : zzOp 98 33 = some (.getfield 28, 3) := by unfold zzOp; rw [zm_98]; decide +kernel
theorem zo_98_36 : zzOp 98 36 = some (.iload_n 1, 1) := by unfold zzOp; rw [zm_98]; decide +kernel
theorem zo_98_37 : zzOp 98 37 = some (.invokevirtual 163, 3) := by unfold zzOp; rw [zm_98]; decide +kernel
theorem zo_98_40 : zzOp 98 40 = some (.aload_n 0, 1) := by unfold zzOp; rw [zm_98]; decide +kernel
theorem zo_98_41 : zzOp 98 41 = some (.getfield 45, 3) := by unfold zzOp; rw [zm_98]; decide +kernel
theorem zo_98_44 : zzOp 98 44 = some (.iconst (-1), 1) := by unfold zzOp; rw [zm_98]; decide +kernel
theorem zo_98_45 : zzOp 98 45 = some (.invokevirtual 167, 3) := by unfold zzOp; rw [zm_98]; decide +kernel
theorem zo_98_48 : zzOp 98 48 = some (.istore 5, 2) := by unfold zzOp; rw [zm_98]; decide +kernel
theorem zo_98_50 : zzOp 98 50 = some (.iconst 0, 1) := by unfold zzOp; rw [zm_98]; decide +kernel
theorem zo_98_51 : zzOp 98 51 = some (.istore 6, 2) := by unfold zzOp; rw [zm_98]; decide +kernel
theorem zo_98_53 : zzOp 98 53 = some (.iload 6, 2) := by unfold zzOp; rw [zm_98]; decide +kernel
theorem zo_98_55 : zzOp 98 55 = some (.aload_n 0, 1) := by unfold zzOp; rw [zm_98]; decide +kernel
theorem zo_98_56 : zzOp 98 56 = some (.getfield 28, 3) := by unfold zzOp; rw [zm_98]; decide +kernel
theorem zo_98_59 : zzOp 98 59 = some (.getfield 108, 3) := by unfold zzOp; rw [zm_98]; decide +kernel
theorem zo_98_62 : zzOp 98 62 = some (.if_icmp .ge 56, 3) := by unfold zzOp; rw [zm_98]; decide +kernel
theorem zo_98_65 : zzOp 98 65 = some (.iload_n 3, 1) := by unfold zzOp; rw [zm_98]; decide +kernel
theorem zo_98_66 : zzOp 98 66 = some (.iconst (-1), 1) := by unfold zzOp; rw [zm_98]; decide +kernel
theorem zo_98_67 : zzOp 98 67 = some (.if_icmp .eq 51, 3) := by unfold zzOp; rw [zm_98]; decide +kernel
theorem zo_98_70 : zzOp 98 70 = some (.aload_n 0, 1) := by unfold zzOp; rw [zm_98]; decide +kernel
theorem zo_98_71 : zzOp 98 71 = some (.getfield 28, 3) := by unfold zzOp; rw [zm_98]; decide +kernel
theorem zo_98_74 : zzOp 98 74 = some (.iload 6, 2) := by unfold zzOp; rw [zm_98]; decide +kernel
theorem zo_98_76 : zzOp 98 76 = some (.invokevirtual 193, 3) := by unfold zzOp; rw [zm_98]; decide +kernel
theorem zo_98_79 : zzOp 98 79 = some (.ifCond .eq 14, 3) := by unfold zzOp; rw [zm_98]; decide +kernel
theorem zo_98_82 : zzOp 98 82 = some (.aload_n 0, 1) := by unfold zzOp; rw [zm_98]; decide +kernel
theorem zo_98_83 : zzOp 98 83 = some (.iload 6, 2) := by unfold zzOp; rw [zm_98]; decide +kernel
theorem zo_98_85 : zzOp 98 85 = some (.iload_n 3, 1) := by unfold zzOp; rw [zm_98]; decide +kernel
theorem zo_98_86 : zzOp 98 86 = some (.iload_n 1, 1) := by unfold zzOp; rw [zm_98]; decide +kernel
theorem zo_98_87 : zzOp 98 87 = some (.invokevirtual 232, 3) := by unfold zzOp; rw [zm_98]; decide +kernel
theorem zo_98_90 : zzOp 98 90 = some (.goto 5, 3) := by unfold zzOp; rw [zm_98]; decide +kernel
theorem zo_98_93 : zzOp 98 93 = some (.iload 5, 2) := by unfold zzOp; rw [zm_98]; decide +kernel
theorem zo_98_95 : zzOp 98 95 = some (.istore 7, 2) := by unfold zzOp; rw [zm_98]; decide +kernel
theorem zo_98_97 : zzOp 98 97 = some (.iload 7, 2) := by unfold zzOp; rw [zm_98]; decide +kernel
theorem zo_98_99 : zzOp 98 99 = some (.iload 5, 2) := by unfold zzOp; rw [zm_98]; decide +kernel
theorem zo_98_101 : zzOp 98 101 = some (.if_icmp .ge 11, 3) := by unfold zzOp; rw [zm_98]; decide +kernel
theorem zo_98_104 : zzOp 98 104 = some (.iload 6, 2) := by unfold zzOp; rw [zm_98]; decide +kernel
theorem zo_98_106 : zzOp 98 106 = some (.istore 4, 2) := by unfold zzOp; rw [zm_98]; decide +kernel
theorem zo_98_108 : zzOp 98 108 = some (.iload 7, 2) := by unfold zzOp; rw [zm_98]; decide +kernel
theorem zo_98_110 : zzOp 98 110 = some (.istore 5, 2) := by unfold zzOp; rw [zm_98]; decide +kernel
theorem zo_98_112 : zzOp 98 112 = some (.iinc 6 1, 3) := by unfold zzOp; rw [zm_98]; decide +kernel
theorem zo_98_115 : zzOp 98 115 = some (.goto (-62), 3) := by unfold zzOp; rw [zm_98]; decide +kernel
theorem zo_98_118 : zzOp 98 118 = some (.iload_n 2, 1) := by unfold zzOp; rw [zm_98]; decide +kernel
theorem zo_98_119 : zzOp 98 119 = some (.ifCond .ne 8, 3) := by unfold zzOp; rw [zm_98]; decide +kernel
theorem zo_98_122 : zzOp 98 122 = some (.iload 4, 2) := by unfold zzOp; rw [zm_98]; decide +kernel
theorem zo_98_124 : zzOp 98 124 = some (.goto 5, 3) := by unfold zzOp; rw [zm_98]; decide +kernel
theorem zo_98_127 : zzOp 98 127 = some (.iload 5, 2) := by unfold zzOp; rw [zm_98]; decide +kernel
theorem zo_98_129 : zzOp 98 129 = some (.ireturn, 1) := by unfold zzOp; rw [zm_98]; decide +kernel
theorem zf_98_28 : zzGet zzFL (zzM 98).2.2.2.2.1 28 = some (6, 2) := by rw [zm_98]; decide +kernel
theorem zf_98_45 : zzGet zzFL (zzM 98).2.2.2.2.1 45 = some (6, 6) := by rw [zm_98]; decide +kernel
theorem zf_98_108 : zzGet zzFL (zzM 98).2.2.2.2.1 108 = some (0, 4) := by rw [zm_98]; decide +kernel
theorem zl_98_160 : zzGet zzML (zzM 98).2.2.2.2.1 160 = some (0, 93) := by rw [zm_98]; decide +kernel
theorem zl_98_163 : zzGet zzML (zzM 98).2.2.2.2.1 163 = some (2, 62) := by rw [zm_98]; decide +kernel
theorem zl_98_167 : zzGet zzML (zzM 98).2.2.2.2.1 167 = some (2, 63) := by rw [zm_98]; decide +kernel
theorem zl_98_183 : zzGet zzML (zzM 98).2.2.2.2.1 183 = some (0, 100) := by rw [zm_98]; decide +kernel
theorem zl_98_193 : zzGet zzML (zzM 98).2.2.2.2.1 193 = some (2, 8) := by rw [zm_98]; decide +kernel
theorem zl_98_229 : zzGet zzML (zzM 98).2.2.2.2.1 229 = some (2, 14) := by rw [zm_98]; decide +kernel
theorem zl_98_232 : zzGet zzML (zzM 98).2.2.2.2.1 232 = some (2, 103) := by rw [zm_98]; decide +kernel
theorem zm_99 : zzM 99 = (yX6_stop, cX6_stop, 7, (some .int), 6, 3, 1, zzc_99) := rfl
theorem zr_99 : (zzM 99).2.2.2.1 = (some .int) := by rw [zm_99]
theorem zo_99_0 : zzOp 99 0 = some (.iload_n 1, 1) := by unfold zzOp; rw [zm_99]; decide +kernel
theorem zo_99_1 : zzOp 99 1 = some (.invokestatic 160, 3) := by unfold zzOp; rw [zm_99]; decide +kernel
theorem zo_99_4 : zzOp 99 4 = some (.ifCond .eq 10, 3) := by unfold zzOp; rw [zm_99]; decide +kernel
theorem zo_99_7 : zzOp 99 7 = some (.iload_n 2, 1) := by unfold zzOp; rw [zm_99]; decide +kernel
theorem zo_99_8 : zzOp 99 8 = some (.invokestatic 183, 3) := by unfold zzOp; rw [zm_99]; decide +kernel
theorem zo_99_11 : zzOp 99 11 = some (.ifCond .ne 6, 3) := by unfold zzOp; rw [zm_99]; decide +kernel
theorem zo_99_14 : zzOp 99 14 = some (.bipush (-2), 2) := by unfold zzOp; rw [zm_99]; decide +kernel
theorem zo_99_16 : zzOp 99 16 = some (.ireturn, 1) := by unfold zzOp; rw [zm_99]; decide +kernel
theorem zo_99_17 : zzOp 99 17 = some (.aload_n 0, 1) := by unfold zzOp; rw [zm_99]; decide +kernel
theorem zo_99_18 : zzOp 99 18 = some (.getfield 45, 3) := by unfold zzOp; rw [zm_99]; decide +kernel
theorem zo_99_21 : zzOp 99 21 = some (.aload_n 0, 1) := by unfold zzOp; rw [zm_99]; decide +kernel
theorem zo_99_22 : zzOp 99 22 = some (.getfield 28, 3) := by unfold zzOp; rw [zm_99]; decide +kernel
theorem zo_99_25 : zzOp 99 25 = some (.iload_n 1, 1) := by unfold zzOp; rw [zm_99]; decide +kernel
theorem zo_99_26 : zzOp 99 26 = some (.invokevirtual 163, 3) := by unfold zzOp; rw [zm_99]; decide +kernel
theorem zo_99_29 : zzOp 99 29 = some (.iconst (-1), 1) := by unfold zzOp; rw [zm_99]; decide +kernel
theorem zo_99_30 : zzOp 99 30 = some (.istore_n 3, 1) := by unfold zzOp; rw [zm_99]; decide +kernel
theorem zo_99_31 : zzOp 99 31 = some (.aload_n 0, 1) := by unfold zzOp; rw [zm_99]; decide +kernel
theorem zo_99_32 : zzOp 99 32 = some (.getfield 45, 3) := by unfold zzOp; rw [zm_99]; decide +kernel
theorem zo_99_35 : zzOp 99 35 = some (.iconst (-1), 1) := by unfold zzOp; rw [zm_99]; decide +kernel
theorem zo_99_36 : zzOp 99 36 = some (.invokevirtual 167, 3) := by unfold zzOp; rw [zm_99]; decide +kernel
theorem zo_99_39 : zzOp 99 39 = some (.istore 4, 2) := by unfold zzOp; rw [zm_99]; decide +kernel
theorem zo_99_41 : zzOp 99 41 = some (.iconst 0, 1) := by unfold zzOp; rw [zm_99]; decide +kernel
theorem zo_99_42 : zzOp 99 42 = some (.istore 5, 2) := by unfold zzOp; rw [zm_99]; decide +kernel
theorem zo_99_44 : zzOp 99 44 = some (.iload 5, 2) := by unfold zzOp; rw [zm_99]; decide +kernel
theorem zo_99_46 : zzOp 99 46 = some (.iload_n 1, 1) := by unfold zzOp; rw [zm_99]; decide +kernel
theorem zo_99_47 : zzOp 99 47 = some (.if_icmp .ge 34, 3) := by unfold zzOp; rw [zm_99]; decide +kernel
theorem zo_99_50 : zzOp 99 50 = some (.aload_n 0, 1) := by unfold zzOp; rw [zm_99]; decide +kernel
theorem zo_99_51 : zzOp 99 51 = some (.getfield 45, 3) := by unfold zzOp; rw [zm_99]; decide +kernel
theorem zo_99_54 : zzOp 99 54 = some (.iload 5, 2) := by unfold zzOp; rw [zm_99]; decide +kernel
theorem zo_99_56 : zzOp 99 56 = some (.invokevirtual 167, 3) := by unfold zzOp; rw [zm_99]; decide +kernel
theorem zo_99_59 : zzOp 99 59 = some (.istore 6, 2) := by unfold zzOp; rw [zm_99]; decide +kernel
theorem zo_99_61 : zzOp 99 61 = some (.iload 6, 2) := by unfold zzOp; rw [zm_99]; decide +kernel
theorem zo_99_63 : zzOp 99 63 = some (.iload 4, 2) := by unfold zzOp; rw [zm_99]; decide +kernel
theorem zo_99_65 : zzOp 99 65 = some (.if_icmp .ge 10, 3) := by unfold zzOp; rw [zm_99]; decide +kernel
theorem zo_99_68 : zzOp 99 68 = some (.iload 5, 2) := by unfold zzOp; rw [zm_99]; decide +kernel
theorem zo_99_70 : zzOp 99 70 = some (.istore_n 3, 1) := by unfold zzOp; rw [zm_99]; decide +kernel
theorem zo_99_71 : zzOp 99 71 = some (.iload 6, 2) := by unfold zzOp; rw [zm_99]; decide +kernel
theorem zo_99_73 : zzOp 99 73 = some (.istore 4, 2) := by unfold zzOp; rw [zm_99]; decide +kernel
theorem zo_99_75 : zzOp 99 75 = some (.iinc 5 1, 3) := by unfold zzOp; rw [zm_99]; decide +kernel
theorem zo_99_78 : zzOp 99 78 = some (.goto (-34), 3) := by unfold zzOp; rw [zm_99]; decide +kernel
theorem zo_99_81 : zzOp 99 81 = some (.iload_n 2, 1) := by unfold zzOp; rw [zm_99]; decide +kernel
theorem zo_99_82 : zzOp 99 82 = some (.ifCond .ne 7, 3) := by unfold zzOp; rw [zm_99]; decide +kernel
theorem zo_99_85 : zzOp 99 85 = some (.iload_n 3, 1) := by unfold zzOp; rw [zm_99]; decide +kernel
theorem zo_99_86 : zzOp 99 86 = some (.goto 5, 3) := by unfold zzOp; rw [zm_99]; decide +kernel
theorem zo_99_89 : zzOp 99 89 = some (.iload 4, 2) := by unfold zzOp; rw [zm_99]; decide +kernel
theorem zo_99_91 : zzOp 99 91 = some (.ireturn, 1) := by unfold zzOp; rw [zm_99]; decide +kernel
theorem zf_99_28 : zzGet zzFL (zzM 99).2.2.2.2.1 28 = some (6, 2) := by rw [zm_99]; decide +kernel
theorem zf_99_45 : zzGet zzFL (zzM 99).2.2.2.2.1 45 = some (6, 6) := by rw [zm_99]; decide +kernel
theorem zl_99_160 : zzGet zzML (zzM 99).2.2.2.2.1 160 = some (0, 93) := by rw [zm_99]; decide +kernel
theorem zl_99_163 : zzGet zzML (zzM 99).2.2.2.2.1 163 = some (2, 62) := by rw [zm_99]; decide +kernel
theorem zl_99_167 : zzGet zzML (zzM 99).2.2.2.2.1 167 = some (2, 63) := by rw [zm_99]; decide +kernel
theorem zl_99_183 : zzGet zzML (zzM 99).2.2.2.2.1 183 = some (0, 100) := by rw [zm_99]; decide +kernel
theorem zm_100 : zzM 100 = (yX6_isZeroOrOne, cX6_isZeroOrOne, 1, (some .boolean), 6, 1, 0, zzc_100) := rfl
theorem zr_100 : (zzM 100).2.2.2.1 = (some .boolean) := by rw [zm_100]
theorem zo_100_0 : zzOp 100 0 = some (.iload_n 0, 1) := by unfold zzOp; rw [zm_100]; decide +kernel
theorem zo_100_1 : zzOp 100 1 = some (.ifCond .eq 8, 3) := by unfold zzOp; rw [zm_100]; decide +kernel
theorem zo_100_4 : zzOp 100 4 = some (.iload_n 0, 1) := by unfold zzOp; rw [zm_100]; decide +kernel
theorem zo_100_5 : zzOp 100 5 = some (.iconst 1, 1) := by unfold zzOp; rw [zm_100]; decide +kernel
theorem zo_100_6 : zzOp 100 6 = some (.if_icmp .ne 7, 3) := by unfold zzOp; rw [zm_100]; decide +kernel
theorem zo_100_9 : zzOp 100 9 = some (.iconst 1, 1) := by unfold zzOp; rw [zm_100]; decide +kernel
theorem zo_100_10 : zzOp 100 10 = some (.goto 4, 3) := by unfold zzOp; rw [zm_100]; decide +kernel
theorem zo_100_13 : zzOp 100 13 = some (.iconst 0, 1) := by unfold zzOp; rw [zm_100]; decide +kernel
theorem zo_100_14 : zzOp 100 14 = some (.ireturn, 1) := by unfold zzOp; rw [zm_100]; decide +kernel
theorem zm_101 : zzM 101 = (yX6_dinMoved, cX6_dinMoved, 3, (some .int), 6, 3, 1, zzc_101) := rfl
theorem zr_101 : (zzM 101).2.2.2.1 = (some .int) := by rw [zm_101]
theorem zo_101_0 : zzOp 101 0 = some (.aload_n 0, 1) := by unfold zzOp; rw [zm_101]; decide +kernel
theorem zo_101_1 : zzOp 101 1 = some (.getfield 32, 3) := by unfold zzOp; rw [zm_101]; decide +kernel
theorem zo_101_4 : zzOp 101 4 = some (.aload_n 0, 1) := by unfold zzOp; rw [zm_101]; decide +kernel
theorem zo_101_5 : zzOp 101 5 = some (.getfield 28, 3) := by unfold zzOp; rw [zm_101]; decide +kernel
theorem zo_101_8 : zzOp 101 8 = some (.invokevirtual 216, 3) := by unfold zzOp; rw [zm_101]; decide +kernel
theorem zo_101_11 : zzOp 101 11 = some (.aload_n 0, 1) := by unfold zzOp; rw [zm_101]; decide +kernel
theorem zo_101_12 : zzOp 101 12 = some (.getfield 32, 3) := by unfold zzOp; rw [zm_101]; decide +kernel
theorem zo_101_15 : zzOp 101 15 = some (.iload_n 1, 1) := by unfold zzOp; rw [zm_101]; decide +kernel
theorem zo_101_16 : zzOp 101 16 = some (.iload_n 2, 1) := by unfold zzOp; rw [zm_101]; decide +kernel
theorem zo_101_17 : zzOp 101 17 = some (.invokevirtual 120, 3) := by unfold zzOp; rw [zm_101]; decide +kernel
theorem zo_101_20 : zzOp 101 20 = some (.aload_n 0, 1) := by unfold zzOp; rw [zm_101]; decide +kernel
theorem zo_101_21 : zzOp 101 21 = some (.getfield 32, 3) := by unfold zzOp; rw [zm_101]; decide +kernel
theorem zo_101_24 : zzOp 101 24 = some (.invokevirtual 150, 3) := by unfold zzOp; rw [zm_101]; decide +kernel
theorem zo_101_27 : zzOp 101 27 = some (.ireturn, 1) := by unfold zzOp; rw [zm_101]; decide +kernel
theorem zf_101_28 : zzGet zzFL (zzM 101).2.2.2.2.1 28 = some (6, 2) := by rw [zm_101]; decide +kernel
theorem zf_101_32 : zzGet zzFL (zzM 101).2.2.2.2.1 32 = some (6, 3) := by rw [zm_101]; decide +kernel
theorem zl_101_120 : zzGet zzML (zzM 101).2.2.2.2.1 120 = some (2, 11) := by rw [zm_101]; decide +kernel
theorem zl_101_150 : zzGet zzML (zzM 101).2.2.2.2.1 150 = some (2, 24) := by rw [zm_101]; decide +kernel
theorem zl_101_216 : zzGet zzML (zzM 101).2.2.2.2.1 216 = some (2, 1) := by rw [zm_101]; decide +kernel
theorem zm_102 : zzM 102 = (yX6_dinChanged, cX6_dinChanged, 3, (some .int), 6, 3, 1, zzc_102) := rfl
theorem zr_102 : (zzM 102).2.2.2.1 = (some .int) := by rw [zm_102]
theorem zo_102_0 : zzOp 102 0 = some (.aload_n 0, 1) := by unfold zzOp; rw [zm_102]; decide +kernel
theorem zo_102_1 : zzOp 102 1 = some (.getfield 32, 3) := by unfold zzOp; rw [zm_102]; decide +kernel
theorem zo_102_4 : zzOp 102 4 = some (.aload_n 0, 1) := by unfold zzOp; rw [zm_102]; decide +kernel
theorem zo_102_5 : zzOp 102 5 = some (.getfield 28, 3) := by unfold zzOp; rw [zm_102]; decide +kernel
theorem zo_102_8 : zzOp 102 8 = some (.invokevirtual 216, 3) := by unfold zzOp; rw [zm_102]; decide +kernel
theorem zo_102_11 : zzOp 102 11 = some (.aload_n 0, 1) := by unfold zzOp; rw [zm_102]; decide +kernel
theorem zo_102_12 : zzOp 102 12 = some (.getfield 32, 3) := by unfold zzOp; rw [zm_102]; decide +kernel
theorem zo_102_15 : zzOp 102 15 = some (.iload_n 1, 1) := by unfold zzOp; rw [zm_102]; decide +kernel
theorem zo_102_16 : zzOp 102 16 = some (.iload_n 2, 1) := by unfold zzOp; rw [zm_102]; decide +kernel
theorem zo_102_17 : zzOp 102 17 = some (.invokevirtual 236, 3) := by unfold zzOp; rw [zm_102]; decide +kernel
theorem zo_102_20 : zzOp 102 20 = some (.aload_n 0, 1) := by unfold zzOp; rw [zm_102]; decide +kernel
theorem zo_102_21 : zzOp 102 21 = some (.getfield 32, 3) := by unfold zzOp; rw [zm_102]; decide +kernel
theorem zo_102_24 : zzOp 102 24 = some (.invokevirtual 150, 3) := by unfold zzOp; rw [zm_102]; decide +kernel
theorem zo_102_27 : zzOp 102 27 = some (.ireturn, 1) := by unfold zzOp; rw [zm_102]; decide +kernel
theorem zf_102_28 : zzGet zzFL (zzM 102).2.2.2.2.1 28 = some (6, 2) := by rw [zm_102]; decide +kernel
theorem zf_102_32 : zzGet zzFL (zzM 102).2.2.2.2.1 32 = some (6, 3) := by rw [zm_102]; decide +kernel
theorem zl_102_150 : zzGet zzML (zzM 102).2.2.2.2.1 150 = some (2, 24) := by rw [zm_102]; decide +kernel
theorem zl_102_216 : zzGet zzML (zzM 102).2.2.2.2.1 216 = some (2, 1) := by rw [zm_102]; decide +kernel
theorem zl_102_236 : zzGet zzML (zzM 102).2.2.2.2.1 236 = some (2, 12) := by rw [zm_102]; decide +kernel
theorem zm_103 : zzM 103 = (yX6_sickMoved, cX6_sickMoved, 4, (some .int), 6, 4, 1, zzc_103) := rfl
theorem zr_103 : (zzM 103).2.2.2.1 = (some .int) := by rw [zm_103]
theorem zo_103_0 : zzOp 103 0 = some (.aload_n 0, 1) := by unfold zzOp; rw [zm_103]; decide +kernel
theorem zo_103_1 : zzOp 103 1 = some (.getfield 32, 3) := by unfold zzOp; rw [zm_103]; decide +kernel
theorem zo_103_4 : zzOp 103 4 = some (.aload_n 0, 1) := by unfold zzOp; rw [zm_103]; decide +kernel
theorem zo_103_5 : zzOp 103 5 = some (.getfield 28, 3) := by unfold zzOp; rw [zm_103]; decide +kernel
theorem zo_103_8 : zzOp 103 8 = some (.invokevirtual 216, 3) := by unfold zzOp; rw [zm_103]; decide +kernel
theorem zo_103_11 : zzOp 103 11 = some (.aload_n 0, 1) := by unfold zzOp; rw [zm_103]; decide +kernel
theorem zo_103_12 : zzOp 103 12 = some (.getfield 32, 3) := by unfold zzOp; rw [zm_103]; decide +kernel
theorem zo_103_15 : zzOp 103 15 = some (.iload_n 1, 1) := by unfold zzOp; rw [zm_103]; decide +kernel
theorem zo_103_16 : zzOp 103 16 = some (.iload_n 2, 1) := by unfold zzOp; rw [zm_103]; decide +kernel
theorem zo_103_17 : zzOp 103 17 = some (.invokevirtual 120, 3) := by unfold zzOp; rw [zm_103]; decide +kernel
theorem zo_103_20 : zzOp 103 20 = some (.aload_n 0, 1) := by unfold zzOp; rw [zm_103]; decide +kernel
theorem zo_103_21 : zzOp 103 21 = some (.getfield 45, 3) := by unfold zzOp; rw [zm_103]; decide +kernel
theorem zo_103_24 : zzOp 103 24 = some (.aload_n 0, 1) := by unfold zzOp; rw [zm_103]; decide +kernel
theorem zo_103_25 : zzOp 103 25 = some (.getfield 32, 3) := by unfold zzOp; rw [zm_103]; decide +kernel
theorem zo_103_28 : zzOp 103 28 = some (.iload_n 3, 1) := by unfold zzOp; rw [zm_103]; decide +kernel
theorem zo_103_29 : zzOp 103 29 = some (.invokevirtual 163, 3) := by unfold zzOp; rw [zm_103]; decide +kernel
theorem zo_103_32 : zzOp 103 32 = some (.aload_n 0, 1) := by unfold zzOp; rw [zm_103]; decide +kernel
theorem zo_103_33 : zzOp 103 33 = some (.getfield 45, 3) := by unfold zzOp; rw [zm_103]; decide +kernel
theorem zo_103_36 : zzOp 103 36 = some (.iconst (-1), 1) := by unfold zzOp; rw [zm_103]; decide +kernel
theorem zo_103_37 : zzOp 103 37 = some (.invokevirtual 167, 3) := by unfold zzOp; rw [zm_103]; decide +kernel
theorem zo_103_40 : zzOp 103 40 = some (.ireturn, 1) := by unfold zzOp; rw [zm_103]; decide +kernel
theorem zf_103_28 : zzGet zzFL (zzM 103).2.2.2.2.1 28 = some (6, 2) := by rw [zm_103]; decide +kernel
theorem zf_103_32 : zzGet zzFL (zzM 103).2.2.2.2.1 32 = some (6, 3) := by rw [zm_103]; decide +kernel
theorem zf_103_45 : zzGet zzFL (zzM 103).2.2.2.2.1 45 = some (6, 6) := by rw [zm_103]; decide +kernel
theorem zl_103_120 : zzGet zzML (zzM 103).2.2.2.2.1 120 = some (2, 11) := by rw [zm_103]; decide +kernel
theorem zl_103_163 : zzGet zzML (zzM 103).2.2.2.2.1 163 = some (2, 62) := by rw [zm_103]; decide +kernel
theorem zl_103_167 : zzGet zzML (zzM 103).2.2.2.2.1 167 = some (2, 63) := by rw [zm_103]; decide +kernel
theorem zl_103_216 : zzGet zzML (zzM 103).2.2.2.2.1 216 = some (2, 1) := by rw [zm_103]; decide +kernel
theorem zm_104 : zzM 104 = (yX6_tells, cX6_tells, 7, (some .int), 6, 3, 1, zzc_104) := rfl
theorem zr_104 : (zzM 104).2.2.2.1 = (some .int) := by rw [zm_104]
theorem zo_104_0 : zzOp 104 0 = some (.aload_n 0, 1) := by unfold zzOp; rw [zm_104]; decide +kernel
theorem zo_104_1 : zzOp 104 1 = some (.iload_n 1, 1) := by unfold zzOp; rw [zm_104]; decide +kernel
theorem zo_104_2 : zzOp 104 2 = some (.invokevirtual 208, 3) := by unfold zzOp; rw [zm_104]; decide +kernel
theorem zo_104_5 : zzOp 104 5 = some (.astore_n 3, 1) := by unfold zzOp; rw [zm_104]; decide +kernel
theorem zo_104_6 : zzOp 104 6 = some (.iload_n 2, 1) := by unfold zzOp; rw [zm_104]; decide +kernel
theorem zo_104_7 : zzOp 104 7 = some (.ifCond .lt 12, 3) := by unfold zzOp; rw [zm_104]; decide +kernel
theorem zo_104_10 : zzOp 104 10 = some (.iload_n 2, 1) := by unfold zzOp; rw [zm_104]; decide +kernel
theorem zo_104_11 : zzOp 104 11 = some (.iconst 3, 1) := by unfold zzOp; rw [zm_104]; decide +kernel
theorem zo_104_12 : zzOp 104 12 = some (.if_icmp .gt 7, 3) := by unfold zzOp; rw [zm_104]; decide +kernel
theorem zo_104_15 : zzOp 104 15 = some (.iconst 1, 1) := by unfold zzOp; rw [zm_104]; decide +kernel
theorem zo_104_16 : zzOp 104 16 = some (.goto 4, 3) := by unfold zzOp; rw [zm_104]; decide +kernel
theorem zo_104_19 : zzOp 104 19 = some (.iconst 0, 1) := by unfold zzOp; rw [zm_104]; decide +kernel
theorem zo_104_20 : zzOp 104 20 = some (.istore 4, 2) := by unfold zzOp; rw [zm_104]; decide +kernel
theorem zo_104_22 : zzOp 104 22 = some (.iload_n 2, 1) := by unfold zzOp; rw [zm_104]; decide +kernel
theorem zo_104_23 : zzOp 104 23 = some (.bipush 10, 2) := by unfold zzOp; rw [zm_104]; decide +kernel
theorem zo_104_25 : zzOp 104 25 = some (.if_icmp .lt 27, 3) := by unfold zzOp; rw [zm_104]; decide +kernel
theorem zo_104_28 : zzOp 104 28 = some (.iload_n 2, 1) := by unfold zzOp; rw [zm_104]; decide +kernel
theorem zo_104_29 : zzOp 104 29 = some (.bipush 40, 2) := by unfold zzOp; rw [zm_104]; decide +kernel
theorem zo_104_31 : zzOp 104 31 = some (.if_icmp .ge 21, 3) := by unfold zzOp; rw [zm_104]; decide +kernel
theorem zo_104_34 : zzOp 104 34 = some (.aload_n 0, 1) := by unfold zzOp; rw [zm_104]; decide +kernel
theorem zo_104_35 : zzOp 104 35 = some (.getfield 28, 3) := by unfold zzOp; rw [zm_104]; decide +kernel
theorem zo_104_38 : zzOp 104 38 = some (.iload_n 2, 1) := by unfold zzOp; rw [zm_104]; decide +kernel
theorem zo_104_39 : zzOp 104 39 = some (.bipush 10, 2) := by unfold zzOp; rw [zm_104]; decide +kernel
theorem zo_104_41 : zzOp 104 41 = some (.irem, 1) := by unfold zzOp; rw [zm_104]; decide +kernel
theorem zo_104_42 : zzOp 104 42 = some (.invokevirtual 86, 3) := by unfold zzOp; rw [zm_104]; decide +kernel
theorem zo_104_45 : zzOp 104 45 = some (.ifCond .eq 7, 3) := by unfold zzOp; rw [zm_104]; decide +kernel
theorem zo_104_48 : zzOp 104 48 = some (.iconst 1, 1) := by unfold zzOp; rw [zm_104]; decide +kernel
theorem zo_104_49 : zzOp 104 49 = some (.goto 4, 3) := by unfold zzOp; rw [zm_104]; decide +kernel
theorem zo_104_52 : zzOp 104 52 = some (.iconst 0, 1) := by unfold zzOp; rw [zm_104]; decide +kernel
theorem zo_104_53 : zzOp 104 53 = some (.istore 5, 2) := by unfold zzOp; rw [zm_104]; decide +kernel
theorem zo_104_55 : zzOp 104 55 = some (.aload_n 3, 1) := by unfold zzOp; rw [zm_104]; decide +kernel
theorem zo_104_56 : zzOp 104 56 = some (.ifnull 13, 3) := by unfold zzOp; rw [zm_104]; decide +kernel
theorem zo_104_59 : zzOp 104 59 = some (.iload 4, 2) := by unfold zzOp; rw [zm_104]; decide +kernel
theorem zo_104_61 : zzOp 104 61 = some (.ifCond .ne 11, 3) := by unfold zzOp; rw [zm_104]; decide +kernel
theorem zo_104_64 : zzOp 104 64 = some (.iload 5, 2) := by unfold zzOp; rw [zm_104]; decide +kernel
theorem zo_104_66 : zzOp 104 66 = some (.ifCond .ne 6, 3) := by unfold zzOp; rw [zm_104]; decide +kernel
theorem zo_104_69 : zzOp 104 69 = some (.bipush (-2), 2) := by unfold zzOp; rw [zm_104]; decide +kernel
theorem zo_104_71 : zzOp 104 71 = some (.ireturn, 1) := by unfold zzOp; rw [zm_104]; decide +kernel
theorem zo_104_72 : zzOp 104 72 = some (.aload_n 3, 1) := by unfold zzOp; rw [zm_104]; decide +kernel
theorem zo_104_73 : zzOp 104 73 = some (.invokevirtual 239, 3) := by unfold zzOp; rw [zm_104]; decide +kernel
theorem zo_104_76 : zzOp 104 76 = some (.ifCond .eq 6, 3) := by unfold zzOp; rw [zm_104]; decide +kernel
theorem zo_104_79 : zzOp 104 79 = some (.bipush (-11), 2) := by unfold zzOp; rw [zm_104]; decide +kernel
theorem zo_104_81 : zzOp 104 81 = some (.ireturn, 1) := by unfold zzOp; rw [zm_104]; decide +kernel
theorem zo_104_82 : zzOp 104 82 = some (.aload_n 3, 1) := by unfold zzOp; rw [zm_104]; decide +kernel
theorem zo_104_83 : zzOp 104 83 = some (.getfield 243, 3) := by unfold zzOp; rw [zm_104]; decide +kernel
theorem zo_104_86 : zzOp 104 86 = some (.aload_n 0, 1) := by unfold zzOp; rw [zm_104]; decide +kernel
theorem zo_104_87 : zzOp 104 87 = some (.getfield 28, 3) := by unfold zzOp; rw [zm_104]; decide +kernel
theorem zo_104_90 : zzOp 104 90 = some (.getfield 108, 3) := by unfold zzOp; rw [zm_104]; decide +kernel
theorem zo_104_93 : zzOp 104 93 = some (.if_icmp .eq 6, 3) := by unfold zzOp; rw [zm_104]; decide +kernel
theorem zo_104_96 : zzOp 104 96 = some (.bipush (-2), 2) := by unfold zzOp; rw [zm_104]; decide +kernel
theorem zo_104_98 : zzOp 104 98 = some (.ireturn, 1) := by unfold zzOp; rw [zm_104]; decide +kernel
theorem zo_104_99 : zzOp 104 99 = some (.aload_n 0, 1) := by unfold zzOp; rw [zm_104]; decide +kernel
theorem zo_104_100 : zzOp 104 100 = some (.getfield 32, 3) := by unfold zzOp; rw [zm_104]; decide +kernel
theorem zo_104_103 : zzOp 104 103 = some (.aload_n 0, 1) := by unfold zzOp; rw [zm_104]; decide +kernel
theorem zo_104_104 : zzOp 104 104 = some (.getfield 28, 3) := by unfold zzOp; rw [zm_104]; decide +kernel
theorem zo_104_107 : zzOp 104 107 = some (.invokevirtual 216, 3) := by unfold zzOp; rw [zm_104]; decide +kernel
theorem zo_104_110 : zzOp 104 110 = some (.iload_n 2, 1) := by unfold zzOp; rw [zm_104]; decide +kernel
theorem zo_104_111 : zzOp 104 111 = some (.bipush 10, 2) := by unfold zzOp; rw [zm_104]; decide +kernel
theorem zo_104_113 : zzOp 104 113 = some (.irem, 1) := by unfold zzOp; rw [zm_104]; decide +kernel
theorem zo_104_114 : zzOp 104 114 = some (.istore 6, 2) := by unfold zzOp; rw [zm_104]; decide +kernel
theorem zo_104_116 : zzOp 104 116 = some (.iload_n 2, 1) := by unfold zzOp; rw [zm_104]; decide +kernel
theorem zo_104_117 : zzOp 104 117 = some (.bipush 10, 2) := by unfold zzOp; rw [zm_104]; decide +kernel
theorem zo_104_119 : zzOp 104 119 = some (.idiv, 1) := by unfold zzOp; rw [zm_104]; decide +kernel
theorem zo_104_120 : zzOp 104 120 = some (.tableswitch 70 1 3 #[28, 45, 62], 28) := by unfold zzOp; rw [zm_104]; decide +kernel
theorem zo_104_148 : zzOp 104 148 = some (.aload_n 0, 1) := by unfold zzOp; rw [zm_104]; decide +kernel
theorem zo_104_149 : zzOp 104 149 = some (.aload_n 3, 1) := by unfold zzOp; rw [zm_104]; decide +kernel
theorem zo_104_150 : zzOp 104 150 = some (.aload_n 0, 1) := by unfold zzOp; rw [zm_104]; decide +kernel
theorem zo_104_151 : zzOp 104 151 = some (.getfield 32, 3) := by unfold zzOp; rw [zm_104]; decide +kernel
theorem zo_104_154 : zzOp 104 154 = some (.getfield 244, 3) := by unfold zzOp; rw [zm_104]; decide +kernel
theorem zo_104_157 : zzOp 104 157 = some (.iload 6, 2) := by unfold zzOp; rw [zm_104]; decide +kernel
theorem zo_104_159 : zzOp 104 159 = some (.bipush 6, 2) := by unfold zzOp; rw [zm_104]; decide +kernel
theorem zo_104_161 : zzOp 104 161 = some (.invokevirtual 247, 3) := by unfold zzOp; rw [zm_104]; decide +kernel
theorem zo_104_164 : zzOp 104 164 = some (.ireturn, 1) := by unfold zzOp; rw [zm_104]; decide +kernel
theorem zo_104_165 : zzOp 104 165 = some (.aload_n 0, 1) := by unfold zzOp; rw [zm_104]; decide +kernel
theorem zo_104_166 : zzOp 104 166 = some (.aload_n 3, 1) := by unfold zzOp; rw [zm_104]; decide +kernel
theorem zo_104_167 : zzOp 104 167 = some (.aload_n 0, 1) := by unfold zzOp; rw [zm_104]; decide +kernel
theorem zo_104_168 : zzOp 104 168 = some (.getfield 32, 3) := by unfold zzOp; rw [zm_104]; decide +kernel
theorem zo_104_171 : zzOp 104 171 = some (.getfield 90, 3) := by unfold zzOp; rw [zm_104]; decide +kernel
theorem zo_104_174 : zzOp 104 174 = some (.iload 6, 2) := by unfold zzOp; rw [zm_104]; decide +kernel
theorem zo_104_176 : zzOp 104 176 = some (.bipush 10, 2) := by unfold zzOp; rw [zm_104]; decide +kernel
theorem zo_104_178 : zzOp 104 178 = some (.invokevirtual 247, 3) := by unfold zzOp; rw [zm_104]; decide +kernel
theorem zo_104_181 : zzOp 104 181 = some (.ireturn, 1) := by unfold zzOp; rw [zm_104]; decide +kernel
theorem zo_104_182 : zzOp 104 182 = some (.aload_n 0, 1) := by unfold zzOp; rw [zm_104]; decide +kernel
theorem zo_104_183 : zzOp 104 183 = some (.aload_n 3, 1) := by unfold zzOp; rw [zm_104]; decide +kernel
theorem zo_104_184 : zzOp 104 184 = some (.iload 6, 2) := by unfold zzOp; rw [zm_104]; decide +kernel
theorem zo_104_186 : zzOp 104 186 = some (.invokevirtual 251, 3) := by unfold zzOp; rw [zm_104]; decide +kernel
theorem zo_104_189 : zzOp 104 189 = some (.ireturn, 1) := by unfold zzOp; rw [zm_104]; decide +kernel
theorem zo_104_190 : zzOp 104 190 = some (.iload_n 2, 1) := by unfold zzOp; rw [zm_104]; decide +kernel
theorem zo_104_191 : zzOp 104 191 = some (.tableswitch 46 0 2 #[25, 34, 40], 25) := by unfold zzOp; rw [zm_104]; decide +kernel
theorem zo_104_216 : zzOp 104 216 = some (.aload_n 0, 1) := by unfold zzOp; rw [zm_104]; decide +kernel
theorem zo_104_217 : zzOp 104 217 = some (.getfield 32, 3) := by unfold zzOp; rw [zm_104]; decide +kernel
theorem zo_104_220 : zzOp 104 220 = some (.aload_n 3, 1) := by unfold zzOp; rw [zm_104]; decide +kernel
theorem zo_104_221 : zzOp 104 221 = some (.invokevirtual 255, 3) := by unfold zzOp; rw [zm_104]; decide +kernel
theorem zo_104_224 : zzOp 104 224 = some (.ireturn, 1) := by unfold zzOp; rw [zm_104]; decide +kernel
theorem zo_104_225 : zzOp 104 225 = some (.aload_n 0, 1) := by unfold zzOp; rw [zm_104]; decide +kernel
theorem zo_104_226 : zzOp 104 226 = some (.aload_n 3, 1) := by unfold zzOp; rw [zm_104]; decide +kernel
theorem zo_104_227 : zzOp 104 227 = some (.invokevirtual 259, 3) := by unfold zzOp; rw [zm_104]; decide +kernel
theorem zo_104_230 : zzOp 104 230 = some (.ireturn, 1) := by unfold zzOp; rw [zm_104]; decide +kernel
theorem zo_104_231 : zzOp 104 231 = some (.aload_n 0, 1) := by unfold zzOp; rw [zm_104]; decide +kernel
theorem zo_104_232 : zzOp 104 232 = some (.aload_n 3, 1) := by unfold zzOp; rw [zm_104]; decide +kernel
theorem zo_104_233 : zzOp 104 233 = some (.invokevirtual 262, 3) := by unfold zzOp; rw [zm_104]; decide +kernel
theorem zo_104_236 : zzOp 104 236 = some (.ireturn, 1) := by unfold zzOp; rw [zm_104]; decide +kernel
theorem zo_104_237 : zzOp 104 237 = some (.aload_n 0, 1) := by unfold zzOp; rw [zm_104]; decide +kernel
theorem zo_104_238 : zzOp 104 238 = some (.aload_n 3, 1) := by unfold zzOp; rw [zm_104]; decide +kernel
theorem zo_104_239 : zzOp 104 239 = some (.invokevirtual 265, 3) := by unfold zzOp; rw [zm_104]; decide +kernel
theorem zo_104_242 : zzOp 104 242 = some (.ireturn, 1) := by unfold zzOp; rw [zm_104]; decide +kernel
theorem zf_104_28 : zzGet zzFL (zzM 104).2.2.2.2.1 28 = some (6, 2) := by rw [zm_104]; decide +kernel
theorem zf_104_32 : zzGet zzFL (zzM 104).2.2.2.2.1 32 = some (6, 3) := by rw [zm_104]; decide +kernel
theorem zf_104_90 : zzGet zzFL (zzM 104).2.2.2.2.1 90 = some (0, 6) := by rw [zm_104]; decide +kernel
theorem zf_104_108 : zzGet zzFL (zzM 104).2.2.2.2.1 108 = some (0, 4) := by rw [zm_104]; decide +kernel
theorem zf_104_243 : zzGet zzFL (zzM 104).2.2.2.2.1 243 = some (4, 1) := by rw [zm_104]; decide +kernel
theorem zf_104_244 : zzGet zzFL (zzM 104).2.2.2.2.1 244 = some (0, 5) := by rw [zm_104]; decide +kernel
theorem zl_104_86 : zzGet zzML (zzM 104).2.2.2.2.1 86 = some (2, 2) := by rw [zm_104]; decide +kernel
theorem zl_104_208 : zzGet zzML (zzM 104).2.2.2.2.1 208 = some (2, 124) := by rw [zm_104]; decide +kernel
theorem zl_104_216 : zzGet zzML (zzM 104).2.2.2.2.1 216 = some (2, 1) := by rw [zm_104]; decide +kernel
theorem zl_104_239 : zzGet zzML (zzM 104).2.2.2.2.1 239 = some (2, 69) := by rw [zm_104]; decide +kernel
theorem zl_104_247 : zzGet zzML (zzM 104).2.2.2.2.1 247 = some (2, 108) := by rw [zm_104]; decide +kernel
theorem zl_104_251 : zzGet zzML (zzM 104).2.2.2.2.1 251 = some (2, 109) := by rw [zm_104]; decide +kernel
theorem zl_104_255 : zzGet zzML (zzM 104).2.2.2.2.1 255 = some (2, 28) := by rw [zm_104]; decide +kernel
theorem zl_104_259 : zzGet zzML (zzM 104).2.2.2.2.1 259 = some (2, 105) := by rw [zm_104]; decide +kernel
theorem zl_104_262 : zzGet zzML (zzM 104).2.2.2.2.1 262 = some (2, 106) := by rw [zm_104]; decide +kernel
theorem zl_104_265 : zzGet zzML (zzM 104).2.2.2.2.1 265 = some (2, 107) := by rw [zm_104]; decide +kernel
theorem zm_105 : zzM 105 = (yX6_textsTold, cX6_textsTold, 4, (some .int), 6, 2, 1, zzc_105) := rfl
theorem zr_105 : (zzM 105).2.2.2.1 = (some .int) := by rw [zm_105]
theorem zo_105_0 : zzOp 105 0 = some (.iconst 0, 1) := by unfold zzOp; rw [zm_105]; decide +kernel
theorem zo_105_1 : zzOp 105 1 = some (.istore_n 2, 1) := by unfold zzOp; rw [zm_105]; decide +kernel
theorem zo_105_2 : zzOp 105 2 = some (.iconst 0, 1) := by unfold zzOp; rw [zm_105]; decide +kernel
theorem zo_105_3 : zzOp 105 3 = some (.istore_n 3, 1) := by unfold zzOp; rw [zm_105]; decide +kernel
theorem zo_105_4 : zzOp 105 4 = some (.iload_n 3, 1) := by unfold zzOp; rw [zm_105]; decide +kernel
theorem zo_105_5 : zzOp 105 5 = some (.aload_n 0, 1) := by unfold zzOp; rw [zm_105]; decide +kernel
theorem zo_105_6 : zzOp 105 6 = some (.getfield 12, 3) := by unfold zzOp; rw [zm_105]; decide +kernel
theorem zo_105_9 : zzOp 105 9 = some (.getfield 146, 3) := by unfold zzOp; rw [zm_105]; decide +kernel
theorem zo_105_12 : zzOp 105 12 = some (.if_icmp .ge 34, 3) := by unfold zzOp; rw [zm_105]; decide +kernel
theorem zo_105_15 : zzOp 105 15 = some (.aload_n 0, 1) := by unfold zzOp; rw [zm_105]; decide +kernel
theorem zo_105_16 : zzOp 105 16 = some (.getfield 32, 3) := by unfold zzOp; rw [zm_105]; decide +kernel
theorem zo_105_19 : zzOp 105 19 = some (.iload_n 3, 1) := by unfold zzOp; rw [zm_105]; decide +kernel
theorem zo_105_20 : zzOp 105 20 = some (.putfield 147, 3) := by unfold zzOp; rw [zm_105]; decide +kernel
theorem zo_105_23 : zzOp 105 23 = some (.aload_n 0, 1) := by unfold zzOp; rw [zm_105]; decide +kernel
theorem zo_105_24 : zzOp 105 24 = some (.getfield 32, 3) := by unfold zzOp; rw [zm_105]; decide +kernel
theorem zo_105_27 : zzOp 105 27 = some (.aload_n 1, 1) := by unfold zzOp; rw [zm_105]; decide +kernel
theorem zo_105_28 : zzOp 105 28 = some (.invokevirtual 255, 3) := by unfold zzOp; rw [zm_105]; decide +kernel
theorem zo_105_31 : zzOp 105 31 = some (.ifCond .ne 9, 3) := by unfold zzOp; rw [zm_105]; decide +kernel
theorem zo_105_34 : zzOp 105 34 = some (.iload_n 2, 1) := by unfold zzOp; rw [zm_105]; decide +kernel
theorem zo_105_35 : zzOp 105 35 = some (.iconst 1, 1) := by unfold zzOp; rw [zm_105]; decide +kernel
theorem zo_105_36 : zzOp 105 36 = some (.iload_n 3, 1) := by unfold zzOp; rw [zm_105]; decide +kernel
theorem zo_105_37 : zzOp 105 37 = some (.ishl, 1) := by unfold zzOp; rw [zm_105]; decide +kernel
theorem zo_105_38 : zzOp 105 38 = some (.ior, 1) := by unfold zzOp; rw [zm_105]; decide +kernel
theorem zo_105_39 : zzOp 105 39 = some (.istore_n 2, 1) := by unfold zzOp; rw [zm_105]; decide +kernel
theorem zo_105_40 : zzOp 105 40 = some (.iinc 3 1, 3) := by unfold zzOp; rw [zm_105]; decide +kernel
theorem zo_105_43 : zzOp 105 43 = some (.goto (-39), 3) := by unfold zzOp; rw [zm_105]; decide +kernel
theorem zo_105_46 : zzOp 105 46 = some (.iload_n 2, 1) := by unfold zzOp; rw [zm_105]; decide +kernel
theorem zo_105_47 : zzOp 105 47 = some (.ireturn, 1) := by unfold zzOp; rw [zm_105]; decide +kernel
theorem zf_105_12 : zzGet zzFL (zzM 105).2.2.2.2.1 12 = some (6, 0) := by rw [zm_105]; decide +kernel
theorem zf_105_32 : zzGet zzFL (zzM 105).2.2.2.2.1 32 = some (6, 3) := by rw [zm_105]; decide +kernel
theorem zf_105_146 : zzGet zzFL (zzM 105).2.2.2.2.1 146 = some (5, 3) := by rw [zm_105]; decide +kernel
theorem zf_105_147 : zzGet zzFL (zzM 105).2.2.2.2.1 147 = some (0, 3) := by rw [zm_105]; decide +kernel
theorem zl_105_255 : zzGet zzML (zzM 105).2.2.2.2.1 255 = some (2, 28) := by rw [zm_105]; decide +kernel
theorem zm_106 : zzM 106 = (yX6_milesTold, cX6_milesTold, 4, (some .int), 6, 2, 1, zzc_106) := rfl
theorem zr_106 : (zzM 106).2.2.2.1 = (some .int) := by rw [zm_106]
theorem zo_106_0 : zzOp 106 0 = some (.iconst 0, 1) := by unfold zzOp; rw [zm_106]; decide +kernel
theorem zo_106_1 : zzOp 106 1 = some (.istore_n 2, 1) := by unfold zzOp; rw [zm_106]; decide +kernel
theorem zo_106_2 : zzOp 106 2 = some (.iconst 0, 1) := by unfold zzOp; rw [zm_106]; decide +kernel
theorem zo_106_3 : zzOp 106 3 = some (.istore_n 3, 1) := by unfold zzOp; rw [zm_106]; decide +kernel
theorem zo_106_4 : zzOp 106 4 = some (.iload_n 3, 1) := by unfold zzOp; rw [zm_106]; decide +kernel
theorem zo_106_5 : zzOp 106 5 = some (.bipush 99, 2) := by unfold zzOp; rw [zm_106]; decide +kernel
theorem zo_106_7 : zzOp 106 7 = some (.if_icmp .gt 31, 3) := by unfold zzOp; rw [zm_106]; decide +kernel
theorem zo_106_10 : zzOp 106 10 = some (.aload_n 0, 1) := by unfold zzOp; rw [zm_106]; decide +kernel
theorem zo_106_11 : zzOp 106 11 = some (.getfield 32, 3) := by unfold zzOp; rw [zm_106]; decide +kernel
theorem zo_106_14 : zzOp 106 14 = some (.iload_n 3, 1) := by unfold zzOp; rw [zm_106]; decide +kernel
theorem zo_106_15 : zzOp 106 15 = some (.putfield 101, 3) := by unfold zzOp; rw [zm_106]; decide +kernel
theorem zo_106_18 : zzOp 106 18 = some (.aload_n 0, 1) := by unfold zzOp; rw [zm_106]; decide +kernel
theorem zo_106_19 : zzOp 106 19 = some (.getfield 32, 3) := by unfold zzOp; rw [zm_106]; decide +kernel
theorem zo_106_22 : zzOp 106 22 = some (.aload_n 1, 1) := by unfold zzOp; rw [zm_106]; decide +kernel
theorem zo_106_23 : zzOp 106 23 = some (.invokevirtual 255, 3) := by unfold zzOp; rw [zm_106]; decide +kernel
theorem zo_106_26 : zzOp 106 26 = some (.ifCond .ne 6, 3) := by unfold zzOp; rw [zm_106]; decide +kernel
theorem zo_106_29 : zzOp 106 29 = some (.iinc 2 1, 3) := by unfold zzOp; rw [zm_106]; decide +kernel
theorem zo_106_32 : zzOp 106 32 = some (.iinc 3 1, 3) := by unfold zzOp; rw [zm_106]; decide +kernel
theorem zo_106_35 : zzOp 106 35 = some (.goto (-31), 3) := by unfold zzOp; rw [zm_106]; decide +kernel
theorem zo_106_38 : zzOp 106 38 = some (.iload_n 2, 1) := by unfold zzOp; rw [zm_106]; decide +kernel
theorem zo_106_39 : zzOp 106 39 = some (.ireturn, 1) := by unfold zzOp; rw [zm_106]; decide +kernel
theorem zf_106_32 : zzGet zzFL (zzM 106).2.2.2.2.1 32 = some (6, 3) := by rw [zm_106]; decide +kernel
theorem zf_106_101 : zzGet zzFL (zzM 106).2.2.2.2.1 101 = some (0, 1) := by rw [zm_106]; decide +kernel
theorem zl_106_255 : zzGet zzML (zzM 106).2.2.2.2.1 255 = some (2, 28) := by rw [zm_106]; decide +kernel
theorem zm_107 : zzM 107 = (yX6_leastMileTold, cX6_leastMileTold, 3, (some .int), 6, 2, 1, zzc_107) := rfl
theorem zr_107 : (zzM 107).2.2.2.1 = (some .int) := by rw [zm_107]
theorem zo_107_0 : zzOp 107 0 = some (.iconst 0, 1) := by unfold zzOp; rw [zm_107]; decide +kernel
theorem zo_107_1 : zzOp 107 1 = some (.istore_n 2, 1) := by unfold zzOp; rw [zm_107]; decide +kernel
theorem zo_107_2 : zzOp 107 2 = some (.iload_n 2, 1) := by unfold zzOp; rw [zm_107]; decide +kernel
theorem zo_107_3 : zzOp 107 3 = some (.bipush 99, 2) := by unfold zzOp; rw [zm_107]; decide +kernel
theorem zo_107_5 : zzOp 107 5 = some (.if_icmp .gt 30, 3) := by unfold zzOp; rw [zm_107]; decide +kernel
theorem zo_107_8 : zzOp 107 8 = some (.aload_n 0, 1) := by unfold zzOp; rw [zm_107]; decide +kernel
theorem zo_107_9 : zzOp 107 9 = some (.getfield 32, 3) := by unfold zzOp; rw [zm_107]; decide +kernel
theorem zo_107_12 : zzOp 107 12 = some (.iload_n 2, 1) := by unfold zzOp; rw [zm_107]; decide +kernel
theorem zo_107_13 : zzOp 107 13 = some (.putfield 101, 3) := by unfold zzOp; rw [zm_107]; decide +kernel
theorem zo_107_16 : zzOp 107 16 = some (.aload_n 0, 1) := by unfold zzOp; rw [zm_107]; decide +kernel
theorem zo_107_17 : zzOp 107 17 = some (.getfield 32, 3) := by unfold zzOp; rw [zm_107]; decide +kernel
theorem zo_107_20 : zzOp 107 20 = some (.aload_n 1, 1) := by unfold zzOp; rw [zm_107]; decide +kernel
theorem zo_107_21 : zzOp 107 21 = some (.invokevirtual 255, 3) := by unfold zzOp; rw [zm_107]; decide +kernel
theorem zo_107_24 : zzOp 107 24 = some (.ifCond .ne 5, 3) := by unfold zzOp; rw [zm_107]; decide +kernel
theorem zo_107_27 : zzOp 107 27 = some (.iload_n 2, 1) := by unfold zzOp; rw [zm_107]; decide +kernel
theorem zo_107_28 : zzOp 107 28 = some (.ireturn, 1) := by unfold zzOp; rw [zm_107]; decide +kernel
theorem zo_107_29 : zzOp 107 29 = some (.iinc 2 1, 3) := by unfold zzOp; rw [zm_107]; decide +kernel
theorem zo_107_32 : zzOp 107 32 = some (.goto (-30), 3) := by unfold zzOp; rw [zm_107]; decide +kernel
theorem zo_107_35 : zzOp 107 35 = some (.iconst (-1), 1) := by unfold zzOp; rw [zm_107]; decide +kernel
theorem zo_107_36 : zzOp 107 36 = some (.ireturn, 1) := by unfold zzOp; rw [zm_107]; decide +kernel
theorem zf_107_32 : zzGet zzFL (zzM 107).2.2.2.2.1 32 = some (6, 3) := by rw [zm_107]; decide +kernel
theorem zf_107_101 : zzGet zzFL (zzM 107).2.2.2.2.1 101 = some (0, 1) := by rw [zm_107]; decide +kernel
theorem zl_107_255 : zzGet zzML (zzM 107).2.2.2.2.1 255 = some (2, 28) := by rw [zm_107]; decide +kernel
theorem zm_108 : zzM 108 = (yX6_itemsTold, cX6_itemsTold, 7, (some .int), 6, 5, 1, zzc_108) := rfl
theorem zr_108 : (zzM 108).2.2.2.1 = (some .int) := by rw [zm_108]
theorem zo_108_0 : zzOp 108 0 = some (.iconst 0, 1) := by unfold zzOp; rw [zm_108]; decide +kernel
theorem zo_108_1 : zzOp 108 1 = some (.istore 5, 2) := by unfold zzOp; rw [zm_108]; decide +kernel
theorem zo_108_3 : zzOp 108 3 = some (.iconst 0, 1) := by unfold zzOp; rw [zm_108]; decide +kernel
theorem zo_108_4 : zzOp 108 4 = some (.istore 6, 2) := by unfold zzOp; rw [zm_108]; decide +kernel
theorem zo_108_6 : zzOp 108 6 = some (.iload 6, 2) := by unfold zzOp; rw [zm_108]; decide +kernel
theorem zo_108_8 : zzOp 108 8 = some (.iload 4, 2) := by unfold zzOp; rw [zm_108]; decide +kernel
theorem zo_108_10 : zzOp 108 10 = some (.if_icmp .ge 36, 3) := by unfold zzOp; rw [zm_108]; decide +kernel
theorem zo_108_13 : zzOp 108 13 = some (.aload_n 2, 1) := by unfold zzOp; rw [zm_108]; decide +kernel
theorem zo_108_14 : zzOp 108 14 = some (.iload_n 3, 1) := by unfold zzOp; rw [zm_108]; decide +kernel
theorem zo_108_15 : zzOp 108 15 = some (.iload 6, 2) := by unfold zzOp; rw [zm_108]; decide +kernel
theorem zo_108_17 : zzOp 108 17 = some (.invokestatic 268, 3) := by unfold zzOp; rw [zm_108]; decide +kernel
theorem zo_108_20 : zzOp 108 20 = some (.aload_n 0, 1) := by unfold zzOp; rw [zm_108]; decide +kernel
theorem zo_108_21 : zzOp 108 21 = some (.getfield 32, 3) := by unfold zzOp; rw [zm_108]; decide +kernel
theorem zo_108_24 : zzOp 108 24 = some (.aload_n 1, 1) := by unfold zzOp; rw [zm_108]; decide +kernel
theorem zo_108_25 : zzOp 108 25 = some (.invokevirtual 255, 3) := by unfold zzOp; rw [zm_108]; decide +kernel
theorem zo_108_28 : zzOp 108 28 = some (.ifCond .ne 12, 3) := by unfold zzOp; rw [zm_108]; decide +kernel
theorem zo_108_31 : zzOp 108 31 = some (.iload 5, 2) := by unfold zzOp; rw [zm_108]; decide +kernel
theorem zo_108_33 : zzOp 108 33 = some (.iconst 1, 1) := by unfold zzOp; rw [zm_108]; decide +kernel
theorem zo_108_34 : zzOp 108 34 = some (.iload 6, 2) := by unfold zzOp; rw [zm_108]; decide +kernel
theorem zo_108_36 : zzOp 108 36 = some (.ishl, 1) := by unfold zzOp; rw [zm_108]; decide +kernel
theorem zo_108_37 : zzOp 108 37 = some (.ior, 1) := by unfold zzOp; rw [zm_108]; decide +kernel
theorem zo_108_38 : zzOp 108 38 = some (.istore 5, 2) := by unfold zzOp; rw [zm_108]; decide +kernel
theorem zo_108_40 : zzOp 108 40 = some (.iinc 6 1, 3) := by unfold zzOp; rw [zm_108]; decide +kernel
theorem zo_108_43 : zzOp 108 43 = some (.goto (-37), 3) := by unfold zzOp; rw [zm_108]; decide +kernel
theorem zo_108_46 : zzOp 108 46 = some (.iload 5, 2) := by unfold zzOp; rw [zm_108]; decide +kernel
theorem zo_108_48 : zzOp 108 48 = some (.ireturn, 1) := by unfold zzOp; rw [zm_108]; decide +kernel
theorem zf_108_32 : zzGet zzFL (zzM 108).2.2.2.2.1 32 = some (6, 3) := by rw [zm_108]; decide +kernel
theorem zl_108_255 : zzGet zzML (zzM 108).2.2.2.2.1 255 = some (2, 28) := by rw [zm_108]; decide +kernel
theorem zl_108_268 : zzGet zzML (zzM 108).2.2.2.2.1 268 = some (0, 126) := by rw [zm_108]; decide +kernel
theorem zm_109 : zzM 109 = (yX6_seatsTold, cX6_seatsTold, 5, (some .int), 6, 3, 1, zzc_109) := rfl
theorem zr_109 : (zzM 109).2.2.2.1 = (some .int) := by rw [zm_109]
theorem zo_109_0 : zzOp 109 0 = some (.iconst 0, 1) := by unfold zzOp; rw [zm_109]; decide +kernel
theorem zo_109_1 : zzOp 109 1 = some (.istore_n 3, 1) := by unfold zzOp; rw [zm_109]; decide +kernel
theorem zo_109_2 : zzOp 109 2 = some (.iconst 0, 1) := by unfold zzOp; rw [zm_109]; decide +kernel
theorem zo_109_3 : zzOp 109 3 = some (.istore 4, 2) := by unfold zzOp; rw [zm_109]; decide +kernel
theorem zo_109_5 : zzOp 109 5 = some (.iload 4, 2) := by unfold zzOp; rw [zm_109]; decide +kernel
theorem zo_109_7 : zzOp 109 7 = some (.bipush 24, 2) := by unfold zzOp; rw [zm_109]; decide +kernel
theorem zo_109_9 : zzOp 109 9 = some (.if_icmp .ge 50, 3) := by unfold zzOp; rw [zm_109]; decide +kernel
theorem zo_109_12 : zzOp 109 12 = some (.aload_n 0, 1) := by unfold zzOp; rw [zm_109]; decide +kernel
theorem zo_109_13 : zzOp 109 13 = some (.getfield 28, 3) := by unfold zzOp; rw [zm_109]; decide +kernel
theorem zo_109_16 : zzOp 109 16 = some (.iload 4, 2) := by unfold zzOp; rw [zm_109]; decide +kernel
theorem zo_109_18 : zzOp 109 18 = some (.iload_n 2, 1) := by unfold zzOp; rw [zm_109]; decide +kernel
theorem zo_109_19 : zzOp 109 19 = some (.invokevirtual 186, 3) := by unfold zzOp; rw [zm_109]; decide +kernel
theorem zo_109_22 : zzOp 109 22 = some (.ifCond .eq 31, 3) := by unfold zzOp; rw [zm_109]; decide +kernel
theorem zo_109_25 : zzOp 109 25 = some (.aload_n 0, 1) := by unfold zzOp; rw [zm_109]; decide +kernel
theorem zo_109_26 : zzOp 109 26 = some (.getfield 32, 3) := by unfold zzOp; rw [zm_109]; decide +kernel
theorem zo_109_29 : zzOp 109 29 = some (.iload_n 2, 1) := by unfold zzOp; rw [zm_109]; decide +kernel
theorem zo_109_30 : zzOp 109 30 = some (.iload 4, 2) := by unfold zzOp; rw [zm_109]; decide +kernel
theorem zo_109_32 : zzOp 109 32 = some (.invokevirtual 120, 3) := by unfold zzOp; rw [zm_109]; decide +kernel
theorem zo_109_35 : zzOp 109 35 = some (.aload_n 0, 1) := by unfold zzOp; rw [zm_109]; decide +kernel
theorem zo_109_36 : zzOp 109 36 = some (.getfield 32, 3) := by unfold zzOp; rw [zm_109]; decide +kernel
theorem zo_109_39 : zzOp 109 39 = some (.aload_n 1, 1) := by unfold zzOp; rw [zm_109]; decide +kernel
theorem zo_109_40 : zzOp 109 40 = some (.invokevirtual 255, 3) := by unfold zzOp; rw [zm_109]; decide +kernel
theorem zo_109_43 : zzOp 109 43 = some (.ifCond .ne 10, 3) := by unfold zzOp; rw [zm_109]; decide +kernel
theorem zo_109_46 : zzOp 109 46 = some (.iload_n 3, 1) := by unfold zzOp; rw [zm_109]; decide +kernel
theorem zo_109_47 : zzOp 109 47 = some (.iconst 1, 1) := by unfold zzOp; rw [zm_109]; decide +kernel
theorem zo_109_48 : zzOp 109 48 = some (.iload 4, 2) := by unfold zzOp; rw [zm_109]; decide +kernel
theorem zo_109_50 : zzOp 109 50 = some (.ishl, 1) := by unfold zzOp; rw [zm_109]; decide +kernel
theorem zo_109_51 : zzOp 109 51 = some (.ior, 1) := by unfold zzOp; rw [zm_109]; decide +kernel
theorem zo_109_52 : zzOp 109 52 = some (.istore_n 3, 1) := by unfold zzOp; rw [zm_109]; decide +kernel
theorem zo_109_53 : zzOp 109 53 = some (.iinc 4 1, 3) := by unfold zzOp; rw [zm_109]; decide +kernel
theorem zo_109_56 : zzOp 109 56 = some (.goto (-51), 3) := by unfold zzOp; rw [zm_109]; decide +kernel
theorem zo_109_59 : zzOp 109 59 = some (.iload_n 3, 1) := by unfold zzOp; rw [zm_109]; decide +kernel
theorem zo_109_60 : zzOp 109 60 = some (.ireturn, 1) := by unfold zzOp; rw [zm_109]; decide +kernel
theorem zf_109_28 : zzGet zzFL (zzM 109).2.2.2.2.1 28 = some (6, 2) := by rw [zm_109]; decide +kernel
theorem zf_109_32 : zzGet zzFL (zzM 109).2.2.2.2.1 32 = some (6, 3) := by rw [zm_109]; decide +kernel
theorem zl_109_120 : zzGet zzML (zzM 109).2.2.2.2.1 120 = some (2, 11) := by rw [zm_109]; decide +kernel
theorem zl_109_186 : zzGet zzML (zzM 109).2.2.2.2.1 186 = some (2, 10) := by rw [zm_109]; decide +kernel
theorem zl_109_255 : zzGet zzML (zzM 109).2.2.2.2.1 255 = some (2, 28) := by rw [zm_109]; decide +kernel
theorem zm_110 : zzM 110 = (yX6_film, cX6_film, 4, (some .int), 6, 2, 1, zzc_110) := rfl
theorem zr_110 : (zzM 110).2.2.2.1 = (some .int) := by rw [zm_110]
theorem zo_110_0 : zzOp 110 0 = some (.aload_n 0, 1) := by unfold zzOp; rw [zm_110]; decide +kernel
theorem zo_110_1 : zzOp 110 1 = some (.iload_n 1, 1) := by unfold zzOp; rw [zm_110]; decide +kernel
theorem zo_110_2 : zzOp 110 2 = some (.invokevirtual 208, 3) := by unfold zzOp; rw [zm_110]; decide +kernel
theorem zo_110_5 : zzOp 110 5 = some (.astore_n 2, 1) := by unfold zzOp; rw [zm_110]; decide +kernel
theorem zo_110_6 : zzOp 110 6 = some (.aload_n 2, 1) := by unfold zzOp; rw [zm_110]; decide +kernel
theorem zo_110_7 : zzOp 110 7 = some (.ifnonnull 6, 3) := by unfold zzOp; rw [zm_110]; decide +kernel
theorem zo_110_10 : zzOp 110 10 = some (.bipush (-2), 2) := by unfold zzOp; rw [zm_110]; decide +kernel
theorem zo_110_12 : zzOp 110 12 = some (.ireturn, 1) := by unfold zzOp; rw [zm_110]; decide +kernel
theorem zo_110_13 : zzOp 110 13 = some (.aload_n 2, 1) := by unfold zzOp; rw [zm_110]; decide +kernel
theorem zo_110_14 : zzOp 110 14 = some (.iconst 1, 1) := by unfold zzOp; rw [zm_110]; decide +kernel
theorem zo_110_15 : zzOp 110 15 = some (.aload_n 0, 1) := by unfold zzOp; rw [zm_110]; decide +kernel
theorem zo_110_16 : zzOp 110 16 = some (.getfield 28, 3) := by unfold zzOp; rw [zm_110]; decide +kernel
theorem zo_110_19 : zzOp 110 19 = some (.getfield 108, 3) := by unfold zzOp; rw [zm_110]; decide +kernel
theorem zo_110_22 : zzOp 110 22 = some (.invokevirtual 272, 3) := by unfold zzOp; rw [zm_110]; decide +kernel
theorem zo_110_25 : zzOp 110 25 = some (.iconst 0, 1) := by unfold zzOp; rw [zm_110]; decide +kernel
theorem zo_110_26 : zzOp 110 26 = some (.istore_n 3, 1) := by unfold zzOp; rw [zm_110]; decide +kernel
theorem zo_110_27 : zzOp 110 27 = some (.iload_n 3, 1) := by unfold zzOp; rw [zm_110]; decide +kernel
theorem zo_110_28 : zzOp 110 28 = some (.aload_n 0, 1) := by unfold zzOp; rw [zm_110]; decide +kernel
theorem zo_110_29 : zzOp 110 29 = some (.getfield 28, 3) := by unfold zzOp; rw [zm_110]; decide +kernel
theorem zo_110_32 : zzOp 110 32 = some (.getfield 108, 3) := by unfold zzOp; rw [zm_110]; decide +kernel
theorem zo_110_35 : zzOp 110 35 = some (.if_icmp .ge 22, 3) := by unfold zzOp; rw [zm_110]; decide +kernel
theorem zo_110_38 : zzOp 110 38 = some (.aload_n 2, 1) := by unfold zzOp; rw [zm_110]; decide +kernel
theorem zo_110_39 : zzOp 110 39 = some (.iload_n 3, 1) := by unfold zzOp; rw [zm_110]; decide +kernel
theorem zo_110_40 : zzOp 110 40 = some (.aload_n 0, 1) := by unfold zzOp; rw [zm_110]; decide +kernel
theorem zo_110_41 : zzOp 110 41 = some (.getfield 28, 3) := by unfold zzOp; rw [zm_110]; decide +kernel
theorem zo_110_44 : zzOp 110 44 = some (.iload_n 3, 1) := by unfold zzOp; rw [zm_110]; decide +kernel
theorem zo_110_45 : zzOp 110 45 = some (.invokevirtual 133, 3) := by unfold zzOp; rw [zm_110]; decide +kernel
theorem zo_110_48 : zzOp 110 48 = some (.invokevirtual 275, 3) := by unfold zzOp; rw [zm_110]; decide +kernel
theorem zo_110_51 : zzOp 110 51 = some (.iinc 3 1, 3) := by unfold zzOp; rw [zm_110]; decide +kernel
theorem zo_110_54 : zzOp 110 54 = some (.goto (-27), 3) := by unfold zzOp; rw [zm_110]; decide +kernel
theorem zo_110_57 : zzOp 110 57 = some (.aload_n 0, 1) := by unfold zzOp; rw [zm_110]; decide +kernel
theorem zo_110_58 : zzOp 110 58 = some (.getfield 28, 3) := by unfold zzOp; rw [zm_110]; decide +kernel
theorem zo_110_61 : zzOp 110 61 = some (.getfield 108, 3) := by unfold zzOp; rw [zm_110]; decide +kernel
theorem zo_110_64 : zzOp 110 64 = some (.ireturn, 1) := by unfold zzOp; rw [zm_110]; decide +kernel
theorem zf_110_28 : zzGet zzFL (zzM 110).2.2.2.2.1 28 = some (6, 2) := by rw [zm_110]; decide +kernel
theorem zf_110_108 : zzGet zzFL (zzM 110).2.2.2.2.1 108 = some (0, 4) := by rw [zm_110]; decide +kernel
theorem zl_110_133 : zzGet zzML (zzM 110).2.2.2.2.1 133 = some (2, 21) := by rw [zm_110]; decide +kernel
theorem zl_110_208 : zzGet zzML (zzM 110).2.2.2.2.1 208 = some (2, 124) := by rw [zm_110]; decide +kernel
theorem zl_110_272 : zzGet zzML (zzM 110).2.2.2.2.1 272 = some (2, 68) := by rw [zm_110]; decide +kernel
theorem zl_110_275 : zzGet zzML (zzM 110).2.2.2.2.1 275 = some (2, 73) := by rw [zm_110]; decide +kernel
theorem zm_111 : zzM 111 = (yX6_drawn, cX6_drawn, 4, (some .int), 6, 2, 1, zzc_111) := rfl
theorem zr_111 : (zzM 111).2.2.2.1 = (some .int) := by rw [zm_111]
theorem zo_111_0 : zzOp 111 0 = some (.aload_n 0, 1) := by unfold zzOp; rw [zm_111]; decide +kernel
theorem zo_111_1 : zzOp 111 1 = some (.getfield 32, 3) := by unfold zzOp; rw [zm_111]; decide +kernel
theorem zo_111_4 : zzOp 111 4 = some (.aload_n 0, 1) := by unfold zzOp; rw [zm_111]; decide +kernel
theorem zo_111_5 : zzOp 111 5 = some (.getfield 28, 3) := by unfold zzOp; rw [zm_111]; decide +kernel
theorem zo_111_8 : zzOp 111 8 = some (.invokevirtual 216, 3) := by unfold zzOp; rw [zm_111]; decide +kernel
theorem zo_111_11 : zzOp 111 11 = some (.iconst 0, 1) := by unfold zzOp; rw [zm_111]; decide +kernel
theorem zo_111_12 : zzOp 111 12 = some (.istore_n 2, 1) := by unfold zzOp; rw [zm_111]; decide +kernel
theorem zo_111_13 : zzOp 111 13 = some (.iload_n 2, 1) := by unfold zzOp; rw [zm_111]; decide +kernel
theorem zo_111_14 : zzOp 111 14 = some (.aload_n 0, 1) := by unfold zzOp; rw [zm_111]; decide +kernel
theorem zo_111_15 : zzOp 111 15 = some (.getfield 32, 3) := by unfold zzOp; rw [zm_111]; decide +kernel
theorem zo_111_18 : zzOp 111 18 = some (.getfield 108, 3) := by unfold zzOp; rw [zm_111]; decide +kernel
theorem zo_111_21 : zzOp 111 21 = some (.if_icmp .ge 18, 3) := by unfold zzOp; rw [zm_111]; decide +kernel
theorem zo_111_24 : zzOp 111 24 = some (.aload_n 0, 1) := by unfold zzOp; rw [zm_111]; decide +kernel
theorem zo_111_25 : zzOp 111 25 = some (.getfield 32, 3) := by unfold zzOp; rw [zm_111]; decide +kernel
theorem zo_111_28 : zzOp 111 28 = some (.iload_n 2, 1) := by unfold zzOp; rw [zm_111]; decide +kernel
theorem zo_111_29 : zzOp 111 29 = some (.iconst (-1), 1) := by unfold zzOp; rw [zm_111]; decide +kernel
theorem zo_111_30 : zzOp 111 30 = some (.invokevirtual 120, 3) := by unfold zzOp; rw [zm_111]; decide +kernel
theorem zo_111_33 : zzOp 111 33 = some (.iinc 2 1, 3) := by unfold zzOp; rw [zm_111]; decide +kernel
theorem zo_111_36 : zzOp 111 36 = some (.goto (-23), 3) := by unfold zzOp; rw [zm_111]; decide +kernel
theorem zo_111_39 : zzOp 111 39 = some (.iload_n 1, 1) := by unfold zzOp; rw [zm_111]; decide +kernel
theorem zo_111_40 : zzOp 111 40 = some (.istore_n 2, 1) := by unfold zzOp; rw [zm_111]; decide +kernel
theorem zo_111_41 : zzOp 111 41 = some (.iconst 0, 1) := by unfold zzOp; rw [zm_111]; decide +kernel
theorem zo_111_42 : zzOp 111 42 = some (.istore_n 3, 1) := by unfold zzOp; rw [zm_111]; decide +kernel
theorem zo_111_43 : zzOp 111 43 = some (.iload_n 3, 1) := by unfold zzOp; rw [zm_111]; decide +kernel
theorem zo_111_44 : zzOp 111 44 = some (.aload_n 0, 1) := by unfold zzOp; rw [zm_111]; decide +kernel
theorem zo_111_45 : zzOp 111 45 = some (.getfield 32, 3) := by unfold zzOp; rw [zm_111]; decide +kernel
theorem zo_111_48 : zzOp 111 48 = some (.getfield 108, 3) := by unfold zzOp; rw [zm_111]; decide +kernel
theorem zo_111_51 : zzOp 111 51 = some (.if_icmp .ge 41, 3) := by unfold zzOp; rw [zm_111]; decide +kernel
theorem zo_111_54 : zzOp 111 54 = some (.iload_n 2, 1) := by unfold zzOp; rw [zm_111]; decide +kernel
theorem zo_111_55 : zzOp 111 55 = some (.ldc_w 278, 3) := by unfold zzOp; rw [zm_111]; decide +kernel
theorem zo_111_58 : zzOp 111 58 = some (.imul, 1) := by unfold zzOp; rw [zm_111]; decide +kernel
theorem zo_111_59 : zzOp 111 59 = some (.sipush 12345, 3) := by unfold zzOp; rw [zm_111]; decide +kernel
theorem zo_111_62 : zzOp 111 62 = some (.iadd, 1) := by unfold zzOp; rw [zm_111]; decide +kernel
theorem zo_111_63 : zzOp 111 63 = some (.istore_n 2, 1) := by unfold zzOp; rw [zm_111]; decide +kernel
theorem zo_111_64 : zzOp 111 64 = some (.aload_n 0, 1) := by unfold zzOp; rw [zm_111]; decide +kernel
theorem zo_111_65 : zzOp 111 65 = some (.getfield 32, 3) := by unfold zzOp; rw [zm_111]; decide +kernel
theorem zo_111_68 : zzOp 111 68 = some (.iload_n 3, 1) := by unfold zzOp; rw [zm_111]; decide +kernel
theorem zo_111_69 : zzOp 111 69 = some (.aload_n 0, 1) := by unfold zzOp; rw [zm_111]; decide +kernel
theorem zo_111_70 : zzOp 111 70 = some (.getfield 32, 3) := by unfold zzOp; rw [zm_111]; decide +kernel
theorem zo_111_73 : zzOp 111 73 = some (.iload_n 2, 1) := by unfold zzOp; rw [zm_111]; decide +kernel
theorem zo_111_74 : zzOp 111 74 = some (.bipush 9, 2) := by unfold zzOp; rw [zm_111]; decide +kernel
theorem zo_111_76 : zzOp 111 76 = some (.iushr, 1) := by unfold zzOp; rw [zm_111]; decide +kernel
theorem zo_111_77 : zzOp 111 77 = some (.bipush 24, 2) := by unfold zzOp; rw [zm_111]; decide +kernel
theorem zo_111_79 : zzOp 111 79 = some (.irem, 1) := by unfold zzOp; rw [zm_111]; decide +kernel
theorem zo_111_80 : zzOp 111 80 = some (.invokevirtual 279, 3) := by unfold zzOp; rw [zm_111]; decide +kernel
theorem zo_111_83 : zzOp 111 83 = some (.invokevirtual 120, 3) := by unfold zzOp; rw [zm_111]; decide +kernel
theorem zo_111_86 : zzOp 111 86 = some (.iinc 3 1, 3) := by unfold zzOp; rw [zm_111]; decide +kernel
theorem zo_111_89 : zzOp 111 89 = some (.goto (-46), 3) := by unfold zzOp; rw [zm_111]; decide +kernel
theorem zo_111_92 : zzOp 111 92 = some (.aload_n 0, 1) := by unfold zzOp; rw [zm_111]; decide +kernel
theorem zo_111_93 : zzOp 111 93 = some (.getfield 32, 3) := by unfold zzOp; rw [zm_111]; decide +kernel
theorem zo_111_96 : zzOp 111 96 = some (.invokevirtual 150, 3) := by unfold zzOp; rw [zm_111]; decide +kernel
theorem zo_111_99 : zzOp 111 99 = some (.ireturn, 1) := by unfold zzOp; rw [zm_111]; decide +kernel
theorem zf_111_28 : zzGet zzFL (zzM 111).2.2.2.2.1 28 = some (6, 2) := by rw [zm_111]; decide +kernel
theorem zf_111_32 : zzGet zzFL (zzM 111).2.2.2.2.1 32 = some (6, 3) := by rw [zm_111]; decide +kernel
theorem zf_111_108 : zzGet zzFL (zzM 111).2.2.2.2.1 108 = some (0, 4) := by rw [zm_111]; decide +kernel
theorem zl_111_120 : zzGet zzML (zzM 111).2.2.2.2.1 120 = some (2, 11) := by rw [zm_111]; decide +kernel
theorem zl_111_150 : zzGet zzML (zzM 111).2.2.2.2.1 150 = some (2, 24) := by rw [zm_111]; decide +kernel
theorem zl_111_216 : zzGet zzML (zzM 111).2.2.2.2.1 216 = some (2, 1) := by rw [zm_111]; decide +kernel
theorem zl_111_279 : zzGet zzML (zzM 111).2.2.2.2.1 279 = some (2, 13) := by rw [zm_111]; decide +kernel
theorem zc_111_278 : zzGet zzKI (zzM 111).2.2.2.2.1 278 = some (1103515245) := by rw [zm_111]; decide +kernel
theorem zc_111_278n : zzGet zzKS (zzM 111).2.2.2.2.1 278 = none := by rw [zm_111]; decide +kernel
theorem zm_112 : zzM 112 = (yX6_chance, cX6_chance, 7, (some .long), 6, 4, 1, zzc_112) := rfl
theorem zr_112 : (zzM 112).2.2.2.1 = (some .long) := by rw [zm_112]
theorem zo_112_0 : zzOp 112 0 = some (.iload_n 2, 1) := by unfold zzOp; rw [zm_112]; decide +kernel
theorem zo_112_1 : zzOp 112 1 = some (.iconst 1, 1) := by unfold zzOp; rw [zm_112]; decide +kernel
theorem zo_112_2 : zzOp 112 2 = some (.if_icmp .lt 16, 3) := by unfold zzOp; rw [zm_112]; decide +kernel
theorem zo_112_5 : zzOp 112 5 = some (.iload_n 2, 1) := by unfold zzOp; rw [zm_112]; decide +kernel
theorem zo_112_6 : zzOp 112 6 = some (.bipush 20, 2) := by unfold zzOp; rw [zm_112]; decide +kernel
theorem zo_112_8 : zzOp 112 8 = some (.if_icmp .gt 10, 3) := by unfold zzOp; rw [zm_112]; decide +kernel
theorem zo_112_11 : zzOp 112 11 = some (.iload_n 3, 1) := by unfold zzOp; rw [zm_112]; decide +kernel
theorem zo_112_12 : zzOp 112 12 = some (.invokestatic 183, 3) := by unfold zzOp; rw [zm_112]; decide +kernel
theorem zo_112_15 : zzOp 112 15 = some (.ifCond .ne 7, 3) := by unfold zzOp; rw [zm_112]; decide +kernel
theorem zo_112_18 : zzOp 112 18 = some (.ldc2_w 282, 3) := by unfold zzOp; rw [zm_112]; decide +kernel
theorem zo_112_21 : zzOp 112 21 = some (.lreturn, 1) := by unfold zzOp; rw [zm_112]; decide +kernel
theorem zo_112_22 : zzOp 112 22 = some (.aload_n 0, 1) := by unfold zzOp; rw [zm_112]; decide +kernel
theorem zo_112_23 : zzOp 112 23 = some (.getfield 28, 3) := by unfold zzOp; rw [zm_112]; decide +kernel
theorem zo_112_26 : zzOp 112 26 = some (.invokevirtual 150, 3) := by unfold zzOp; rw [zm_112]; decide +kernel
theorem zo_112_29 : zzOp 112 29 = some (.istore 4, 2) := by unfold zzOp; rw [zm_112]; decide +kernel
theorem zo_112_31 : zzOp 112 31 = some (.iconst 0, 1) := by unfold zzOp; rw [zm_112]; decide +kernel
theorem zo_112_32 : zzOp 112 32 = some (.istore 5, 2) := by unfold zzOp; rw [zm_112]; decide +kernel
theorem zo_112_34 : zzOp 112 34 = some (.iconst 0, 1) := by unfold zzOp; rw [zm_112]; decide +kernel
theorem zo_112_35 : zzOp 112 35 = some (.istore 6, 2) := by unfold zzOp; rw [zm_112]; decide +kernel
theorem zo_112_37 : zzOp 112 37 = some (.iload 6, 2) := by unfold zzOp; rw [zm_112]; decide +kernel
theorem zo_112_39 : zzOp 112 39 = some (.iload_n 2, 1) := by unfold zzOp; rw [zm_112]; decide +kernel
theorem zo_112_40 : zzOp 112 40 = some (.if_icmp .ge 25, 3) := by unfold zzOp; rw [zm_112]; decide +kernel
theorem zo_112_43 : zzOp 112 43 = some (.aload_n 0, 1) := by unfold zzOp; rw [zm_112]; decide +kernel
theorem zo_112_44 : zzOp 112 44 = some (.iload_n 1, 1) := by unfold zzOp; rw [zm_112]; decide +kernel
theorem zo_112_45 : zzOp 112 45 = some (.iload 6, 2) := by unfold zzOp; rw [zm_112]; decide +kernel
theorem zo_112_47 : zzOp 112 47 = some (.iadd, 1) := by unfold zzOp; rw [zm_112]; decide +kernel
theorem zo_112_48 : zzOp 112 48 = some (.invokevirtual 284, 3) := by unfold zzOp; rw [zm_112]; decide +kernel
theorem zo_112_51 : zzOp 112 51 = some (.iload 4, 2) := by unfold zzOp; rw [zm_112]; decide +kernel
theorem zo_112_53 : zzOp 112 53 = some (.if_icmp .gt 6, 3) := by unfold zzOp; rw [zm_112]; decide +kernel
theorem zo_112_56 : zzOp 112 56 = some (.iinc 5 1, 3) := by unfold zzOp; rw [zm_112]; decide +kernel
theorem zo_112_59 : zzOp 112 59 = some (.iinc 6 1, 3) := by unfold zzOp; rw [zm_112]; decide +kernel
theorem zo_112_62 : zzOp 112 62 = some (.goto (-25), 3) := by unfold zzOp; rw [zm_112]; decide +kernel
theorem zo_112_65 : zzOp 112 65 = some (.iload_n 3, 1) := by unfold zzOp; rw [zm_112]; decide +kernel
theorem zo_112_66 : zzOp 112 66 = some (.ifCond .ne 15, 3) := by unfold zzOp; rw [zm_112]; decide +kernel
theorem zo_112_69 : zzOp 112 69 = some (.iload 5, 2) := by unfold zzOp; rw [zm_112]; decide +kernel
theorem zo_112_71 : zzOp 112 71 = some (.iload 5, 2) := by unfold zzOp; rw [zm_112]; decide +kernel
theorem zo_112_73 : zzOp 112 73 = some (.iload_n 2, 1) := by unfold zzOp; rw [zm_112]; decide +kernel
theorem zo_112_74 : zzOp 112 74 = some (.invokestatic 287, 3) := by unfold zzOp; rw [zm_112]; decide +kernel
theorem zo_112_77 : zzOp 112 77 = some (.i2l, 1) := by unfold zzOp; rw [zm_112]; decide +kernel
theorem zo_112_78 : zzOp 112 78 = some (.goto 11, 3) := by unfold zzOp; rw [zm_112]; decide +kernel
theorem zo_112_81 : zzOp 112 81 = some (.iload_n 2, 1) := by unfold zzOp; rw [zm_112]; decide +kernel
theorem zo_112_82 : zzOp 112 82 = some (.iload 5, 2) := by unfold zzOp; rw [zm_112]; decide +kernel
theorem zo_112_84 : zzOp 112 84 = some (.iload_n 2, 1) := by unfold zzOp; rw [zm_112]; decide +kernel
theorem zo_112_85 : zzOp 112 85 = some (.invokestatic 287, 3) := by unfold zzOp; rw [zm_112]; decide +kernel
theorem zo_112_88 : zzOp 112 88 = some (.i2l, 1) := by unfold zzOp; rw [zm_112]; decide +kernel
theorem zo_112_89 : zzOp 112 89 = some (.lreturn, 1) := by unfold zzOp; rw [zm_112]; decide +kernel
theorem zf_112_28 : zzGet zzFL (zzM 112).2.2.2.2.1 28 = some (6, 2) := by rw [zm_112]; decide +kernel
theorem zl_112_150 : zzGet zzML (zzM 112).2.2.2.2.1 150 = some (2, 24) := by rw [zm_112]; decide +kernel
theorem zl_112_183 : zzGet zzML (zzM 112).2.2.2.2.1 183 = some (0, 100) := by rw [zm_112]; decide +kernel
theorem zl_112_284 : zzGet zzML (zzM 112).2.2.2.2.1 284 = some (2, 111) := by rw [zm_112]; decide +kernel
theorem zl_112_287 : zzGet zzML (zzM 112).2.2.2.2.1 287 = some (0, 113) := by rw [zm_112]; decide +kernel
theorem zc_112_282 : zzGet zzKL (zzM 112).2.2.2.2.1 282 = some (-4611686018427387904) := by rw [zm_112]; decide +kernel
theorem zm_113 : zzM 113 = (yX6_lowered, cX6_lowered, 4, (some .int), 6, 3, 0, zzc_113) := rfl
theorem zr_113 : (zzM 113).2.2.2.1 = (some .int) := by rw [zm_113]
theorem zo_113_0 : zzOp 113 0 = some (.iload_n 2, 1) := by unfold zzOp; rw [zm_113]; decide +kernel
theorem zo_113_1 : zzOp 113 1 = some (.istore_n 3, 1) := by unfold zzOp; rw [zm_113]; decide +kernel
theorem zo_113_2 : zzOp 113 2 = some (.iload_n 3, 1) := by unfold zzOp; rw [zm_113]; decide +kernel
theorem zo_113_3 : zzOp 113 3 = some (.iconst 1, 1) := by unfold zzOp; rw [zm_113]; decide +kernel
theorem zo_113_4 : zzOp 113 4 = some (.if_icmp .le 25, 3) := by unfold zzOp; rw [zm_113]; decide +kernel
theorem zo_113_7 : zzOp 113 7 = some (.iload_n 1, 1) := by unfold zzOp; rw [zm_113]; decide +kernel
theorem zo_113_8 : zzOp 113 8 = some (.iload_n 3, 1) := by unfold zzOp; rw [zm_113]; decide +kernel
theorem zo_113_9 : zzOp 113 9 = some (.irem, 1) := by unfold zzOp; rw [zm_113]; decide +kernel
theorem zo_113_10 : zzOp 113 10 = some (.ifCond .ne 13, 3) := by unfold zzOp; rw [zm_113]; decide +kernel
theorem zo_113_13 : zzOp 113 13 = some (.iload_n 2, 1) := by unfold zzOp; rw [zm_113]; decide +kernel
theorem zo_113_14 : zzOp 113 14 = some (.iload_n 3, 1) := by unfold zzOp; rw [zm_113]; decide +kernel
theorem zo_113_15 : zzOp 113 15 = some (.irem, 1) := by unfold zzOp; rw [zm_113]; decide +kernel
theorem zo_113_16 : zzOp 113 16 = some (.ifCond .ne 7, 3) := by unfold zzOp; rw [zm_113]; decide +kernel
theorem zo_113_19 : zzOp 113 19 = some (.iload_n 0, 1) := by unfold zzOp; rw [zm_113]; decide +kernel
theorem zo_113_20 : zzOp 113 20 = some (.iload_n 3, 1) := by unfold zzOp; rw [zm_113]; decide +kernel
theorem zo_113_21 : zzOp 113 21 = some (.idiv, 1) := by unfold zzOp; rw [zm_113]; decide +kernel
theorem zo_113_22 : zzOp 113 22 = some (.ireturn, 1) := by unfold zzOp; rw [zm_113]; decide +kernel
theorem zo_113_23 : zzOp 113 23 = some (.iinc 3 (-1), 3) := by unfold zzOp; rw [zm_113]; decide +kernel
theorem zo_113_26 : zzOp 113 26 = some (.goto (-24), 3) := by unfold zzOp; rw [zm_113]; decide +kernel
theorem zo_113_29 : zzOp 113 29 = some (.iload_n 0, 1) := by unfold zzOp; rw [zm_113]; decide +kernel
theorem zo_113_30 : zzOp 113 30 = some (.ireturn, 1) := by unfold zzOp; rw [zm_113]; decide +kernel
theorem zm_114 : zzM 114 = (yX6_image, cX6_image, 1, (some .int), 6, 1, 1, zzc_114) := rfl
theorem zr_114 : (zzM 114).2.2.2.1 = (some .int) := by rw [zm_114]
theorem zo_114_0 : zzOp 114 0 = some (.aload_n 0, 1) := by unfold zzOp; rw [zm_114]; decide +kernel
theorem zo_114_1 : zzOp 114 1 = some (.getfield 35, 3) := by unfold zzOp; rw [zm_114]; decide +kernel
theorem zo_114_4 : zzOp 114 4 = some (.aload_n 0, 1) := by unfold zzOp; rw [zm_114]; decide +kernel
theorem zo_114_5 : zzOp 114 5 = some (.getfield 28, 3) := by unfold zzOp; rw [zm_114]; decide +kernel
theorem zo_114_8 : zzOp 114 8 = some (.invokevirtual 216, 3) := by unfold zzOp; rw [zm_114]; decide +kernel
theorem zo_114_11 : zzOp 114 11 = some (.aload_n 0, 1) := by unfold zzOp; rw [zm_114]; decide +kernel
theorem zo_114_12 : zzOp 114 12 = some (.iconst 1, 1) := by unfold zzOp; rw [zm_114]; decide +kernel
theorem zo_114_13 : zzOp 114 13 = some (.putfield 38, 3) := by unfold zzOp; rw [zm_114]; decide +kernel
theorem zo_114_16 : zzOp 114 16 = some (.aload_n 0, 1) := by unfold zzOp; rw [zm_114]; decide +kernel
theorem zo_114_17 : zzOp 114 17 = some (.getfield 28, 3) := by unfold zzOp; rw [zm_114]; decide +kernel
theorem zo_114_20 : zzOp 114 20 = some (.getfield 108, 3) := by unfold zzOp; rw [zm_114]; decide +kernel
theorem zo_114_23 : zzOp 114 23 = some (.ireturn, 1) := by unfold zzOp; rw [zm_114]; decide +kernel
theorem zf_114_28 : zzGet zzFL (zzM 114).2.2.2.2.1 28 = some (6, 2) := by rw [zm_114]; decide +kernel
theorem zf_114_35 : zzGet zzFL (zzM 114).2.2.2.2.1 35 = some (6, 4) := by rw [zm_114]; decide +kernel
theorem zf_114_38 : zzGet zzFL (zzM 114).2.2.2.2.1 38 = some (6, 5) := by rw [zm_114]; decide +kernel
theorem zf_114_108 : zzGet zzFL (zzM 114).2.2.2.2.1 108 = some (0, 4) := by rw [zm_114]; decide +kernel
theorem zl_114_216 : zzGet zzML (zzM 114).2.2.2.2.1 216 = some (2, 1) := by rw [zm_114]; decide +kernel
theorem zm_115 : zzM 115 = (yX6_back, cX6_back, 1, (some .int), 6, 1, 1, zzc_115) := rfl
theorem zr_115 : (zzM 115).2.2.2.1 = (some .int) := by rw [zm_115]
theorem zo_115_0 : zzOp 115 0 = some (.aload_n 0, 1) := by unfold zzOp; rw [zm_115]; decide +kernel
theorem zo_115_1 : zzOp 115 1 = some (.getfield 38, 3) := by unfold zzOp; rw [zm_115]; decide +kernel
theorem zo_115_4 : zzOp 115 4 = some (.ifCond .ne 6, 3) := by unfold zzOp; rw [zm_115]; decide +kernel
theorem zo_115_7 : zzOp 115 7 = some (.bipush (-3), 2) := by unfold zzOp; rw [zm_115]; decide +kernel
theorem zo_115_9 : zzOp 115 9 = some (.ireturn, 1) := by unfold zzOp; rw [zm_115]; decide +kernel
theorem zo_115_10 : zzOp 115 10 = some (.aload_n 0, 1) := by unfold zzOp; rw [zm_115]; decide +kernel
theorem zo_115_11 : zzOp 115 11 = some (.getfield 28, 3) := by unfold zzOp; rw [zm_115]; decide +kernel
theorem zo_115_14 : zzOp 115 14 = some (.aload_n 0, 1) := by unfold zzOp; rw [zm_115]; decide +kernel
theorem zo_115_15 : zzOp 115 15 = some (.getfield 35, 3) := by unfold zzOp; rw [zm_115]; decide +kernel
theorem zo_115_18 : zzOp 115 18 = some (.invokevirtual 216, 3) := by unfold zzOp; rw [zm_115]; decide +kernel
theorem zo_115_21 : zzOp 115 21 = some (.aload_n 0, 1) := by unfold zzOp; rw [zm_115]; decide +kernel
theorem zo_115_22 : zzOp 115 22 = some (.getfield 28, 3) := by unfold zzOp; rw [zm_115]; decide +kernel
theorem zo_115_25 : zzOp 115 25 = some (.getfield 108, 3) := by unfold zzOp; rw [zm_115]; decide +kernel
theorem zo_115_28 : zzOp 115 28 = some (.ireturn, 1) := by unfold zzOp; rw [zm_115]; decide +kernel
theorem zf_115_28 : zzGet zzFL (zzM 115).2.2.2.2.1 28 = some (6, 2) := by rw [zm_115]; decide +kernel
theorem zf_115_35 : zzGet zzFL (zzM 115).2.2.2.2.1 35 = some (6, 4) := by rw [zm_115]; decide +kernel
theorem zf_115_38 : zzGet zzFL (zzM 115).2.2.2.2.1 38 = some (6, 5) := by rw [zm_115]; decide +kernel
theorem zf_115_108 : zzGet zzFL (zzM 115).2.2.2.2.1 108 = some (0, 4) := by rw [zm_115]; decide +kernel
theorem zl_115_216 : zzGet zzML (zzM 115).2.2.2.2.1 216 = some (2, 1) := by rw [zm_115]; decide +kernel
theorem zm_116 : zzM 116 = (yX6_count, cX6_count, 2, (some .int), 6, 2, 1, zzc_116) := rfl
theorem zr_116 : (zzM 116).2.2.2.1 = (some .int) := by rw [zm_116]
theorem zo_116_0 : zzOp 116 0 = some (.iload_n 1, 1) := by unfold zzOp; rw [zm_116]; decide +kernel
theorem zo_116_1 : zzOp 116 1 = some (.tableswitch 75 0 4 #[35, 43, 51, 59, 67], 35) := by unfold zzOp; rw [zm_116]; decide +kernel
theorem zo_116_36 : zzOp 116 36 = some (.aload_n 0, 1) := by unfold zzOp; rw [zm_116]; decide +kernel
theorem zo_116_37 : zzOp 116 37 = some (.getfield 28, 3) := by unfold zzOp; rw [zm_116]; decide +kernel
theorem zo_116_40 : zzOp 116 40 = some (.getfield 108, 3) := by unfold zzOp; rw [zm_116]; decide +kernel
theorem zo_116_43 : zzOp 116 43 = some (.ireturn, 1) := by unfold zzOp; rw [zm_116]; decide +kernel
theorem zo_116_44 : zzOp 116 44 = some (.aload_n 0, 1) := by unfold zzOp; rw [zm_116]; decide +kernel
theorem zo_116_45 : zzOp 116 45 = some (.getfield 28, 3) := by unfold zzOp; rw [zm_116]; decide +kernel
theorem zo_116_48 : zzOp 116 48 = some (.invokevirtual 290, 3) := by unfold zzOp; rw [zm_116]; decide +kernel
theorem zo_116_51 : zzOp 116 51 = some (.ireturn, 1) := by unfold zzOp; rw [zm_116]; decide +kernel
theorem zo_116_52 : zzOp 116 52 = some (.aload_n 0, 1) := by unfold zzOp; rw [zm_116]; decide +kernel
theorem zo_116_53 : zzOp 116 53 = some (.getfield 12, 3) := by unfold zzOp; rw [zm_116]; decide +kernel
theorem zo_116_56 : zzOp 116 56 = some (.getfield 146, 3) := by unfold zzOp; rw [zm_116]; decide +kernel
theorem zo_116_59 : zzOp 116 59 = some (.ireturn, 1) := by unfold zzOp; rw [zm_116]; decide +kernel
theorem zo_116_60 : zzOp 116 60 = some (.aload_n 0, 1) := by unfold zzOp; rw [zm_116]; decide +kernel
theorem zo_116_61 : zzOp 116 61 = some (.getfield 21, 3) := by unfold zzOp; rw [zm_116]; decide +kernel
theorem zo_116_64 : zzOp 116 64 = some (.getfield 145, 3) := by unfold zzOp; rw [zm_116]; decide +kernel
theorem zo_116_67 : zzOp 116 67 = some (.ireturn, 1) := by unfold zzOp; rw [zm_116]; decide +kernel
theorem zo_116_68 : zzOp 116 68 = some (.aload_n 0, 1) := by unfold zzOp; rw [zm_116]; decide +kernel
theorem zo_116_69 : zzOp 116 69 = some (.getfield 28, 3) := by unfold zzOp; rw [zm_116]; decide +kernel
theorem zo_116_72 : zzOp 116 72 = some (.getfield 147, 3) := by unfold zzOp; rw [zm_116]; decide +kernel
theorem zo_116_75 : zzOp 116 75 = some (.ireturn, 1) := by unfold zzOp; rw [zm_116]; decide +kernel
theorem zo_116_76 : zzOp 116 76 = some (.bipush (-2), 2) := by unfold zzOp; rw [zm_116]; decide +kernel
theorem zo_116_78 : zzOp 116 78 = some (.ireturn, 1) := by unfold zzOp; rw [zm_116]; decide +kernel
theorem zf_116_12 : zzGet zzFL (zzM 116).2.2.2.2.1 12 = some (6, 0) := by rw [zm_116]; decide +kernel
theorem zf_116_21 : zzGet zzFL (zzM 116).2.2.2.2.1 21 = some (6, 1) := by rw [zm_116]; decide +kernel
theorem zf_116_28 : zzGet zzFL (zzM 116).2.2.2.2.1 28 = some (6, 2) := by rw [zm_116]; decide +kernel
theorem zf_116_108 : zzGet zzFL (zzM 116).2.2.2.2.1 108 = some (0, 4) := by rw [zm_116]; decide +kernel
theorem zf_116_145 : zzGet zzFL (zzM 116).2.2.2.2.1 145 = some (2, 2) := by rw [zm_116]; decide +kernel
theorem zf_116_146 : zzGet zzFL (zzM 116).2.2.2.2.1 146 = some (5, 3) := by rw [zm_116]; decide +kernel
theorem zf_116_147 : zzGet zzFL (zzM 116).2.2.2.2.1 147 = some (0, 3) := by rw [zm_116]; decide +kernel
theorem zl_116_290 : zzGet zzML (zzM 116).2.2.2.2.1 290 = some (2, 26) := by rw [zm_116]; decide +kernel
theorem zm_117 : zzM 117 = (yX6_sheet, cX6_sheet, 5, (some .int), 6, 4, 1, zzc_117) := rfl
theorem zr_117 : (zzM 117).2.2.2.1 = (some .int) := by rw [zm_117]
theorem zo_117_0 : zzOp 117 0 = some (.aload_n 0, 1) := by unfold zzOp; rw [zm_117]; decide +kernel
theorem zo_117_1 : zzOp 117 1 = some (.iload_n 1, 1) := by unfold zzOp; rw [zm_117]; decide +kernel
theorem zo_117_2 : zzOp 117 2 = some (.invokevirtual 208, 3) := by unfold zzOp; rw [zm_117]; decide +kernel
theorem zo_117_5 : zzOp 117 5 = some (.astore 4, 2) := by unfold zzOp; rw [zm_117]; decide +kernel
theorem zo_117_7 : zzOp 117 7 = some (.aload 4, 2) := by unfold zzOp; rw [zm_117]; decide +kernel
theorem zo_117_9 : zzOp 117 9 = some (.ifnull 13, 3) := by unfold zzOp; rw [zm_117]; decide +kernel
theorem zo_117_12 : zzOp 117 12 = some (.iload_n 2, 1) := by unfold zzOp; rw [zm_117]; decide +kernel
theorem zo_117_13 : zzOp 117 13 = some (.iconst (-1), 1) := by unfold zzOp; rw [zm_117]; decide +kernel
theorem zo_117_14 : zzOp 117 14 = some (.if_icmp .lt 8, 3) := by unfold zzOp; rw [zm_117]; decide +kernel
theorem zo_117_17 : zzOp 117 17 = some (.iload_n 2, 1) := by unfold zzOp; rw [zm_117]; decide +kernel
theorem zo_117_18 : zzOp 117 18 = some (.iconst 2, 1) := by unfold zzOp; rw [zm_117]; decide +kernel
theorem zo_117_19 : zzOp 117 19 = some (.if_icmp .le 6, 3) := by unfold zzOp; rw [zm_117]; decide +kernel
theorem zo_117_22 : zzOp 117 22 = some (.bipush (-2), 2) := by unfold zzOp; rw [zm_117]; decide +kernel
theorem zo_117_24 : zzOp 117 24 = some (.ireturn, 1) := by unfold zzOp; rw [zm_117]; decide +kernel
theorem zo_117_25 : zzOp 117 25 = some (.iload_n 2, 1) := by unfold zzOp; rw [zm_117]; decide +kernel
theorem zo_117_26 : zzOp 117 26 = some (.iconst (-1), 1) := by unfold zzOp; rw [zm_117]; decide +kernel
theorem zo_117_27 : zzOp 117 27 = some (.if_icmp .ne 12, 3) := by unfold zzOp; rw [zm_117]; decide +kernel
theorem zo_117_30 : zzOp 117 30 = some (.aload 4, 2) := by unfold zzOp; rw [zm_117]; decide +kernel
theorem zo_117_32 : zzOp 117 32 = some (.iconst (-1), 1) := by unfold zzOp; rw [zm_117]; decide +kernel
theorem zo_117_33 : zzOp 117 33 = some (.iconst 0, 1) := by unfold zzOp; rw [zm_117]; decide +kernel
theorem zo_117_34 : zzOp 117 34 = some (.invokevirtual 272, 3) := by unfold zzOp; rw [zm_117]; decide +kernel
theorem zo_117_37 : zzOp 117 37 = some (.iconst 1, 1) := by unfold zzOp; rw [zm_117]; decide +kernel
theorem zo_117_38 : zzOp 117 38 = some (.ireturn, 1) := by unfold zzOp; rw [zm_117]; decide +kernel
theorem zo_117_39 : zzOp 117 39 = some (.iload_n 3, 1) := by unfold zzOp; rw [zm_117]; decide +kernel
theorem zo_117_40 : zzOp 117 40 = some (.bipush 40, 2) := by unfold zzOp; rw [zm_117]; decide +kernel
theorem zo_117_42 : zzOp 117 42 = some (.if_icmp .le 6, 3) := by unfold zzOp; rw [zm_117]; decide +kernel
theorem zo_117_45 : zzOp 117 45 = some (.bipush (-2), 2) := by unfold zzOp; rw [zm_117]; decide +kernel
theorem zo_117_47 : zzOp 117 47 = some (.ireturn, 1) := by unfold zzOp; rw [zm_117]; decide +kernel
theorem zo_117_48 : zzOp 117 48 = some (.iload_n 3, 1) := by unfold zzOp; rw [zm_117]; decide +kernel
theorem zo_117_49 : zzOp 117 49 = some (.ifCond .ge 6, 3) := by unfold zzOp; rw [zm_117]; decide +kernel
theorem zo_117_52 : zzOp 117 52 = some (.bipush (-14), 2) := by unfold zzOp; rw [zm_117]; decide +kernel
theorem zo_117_54 : zzOp 117 54 = some (.ireturn, 1) := by unfold zzOp; rw [zm_117]; decide +kernel
theorem zo_117_55 : zzOp 117 55 = some (.aload 4, 2) := by unfold zzOp; rw [zm_117]; decide +kernel
theorem zo_117_57 : zzOp 117 57 = some (.iload_n 2, 1) := by unfold zzOp; rw [zm_117]; decide +kernel
theorem zo_117_58 : zzOp 117 58 = some (.iload_n 3, 1) := by unfold zzOp; rw [zm_117]; decide +kernel
theorem zo_117_59 : zzOp 117 59 = some (.invokevirtual 272, 3) := by unfold zzOp; rw [zm_117]; decide +kernel
theorem zo_117_62 : zzOp 117 62 = some (.iconst 1, 1) := by unfold zzOp; rw [zm_117]; decide +kernel
theorem zo_117_63 : zzOp 117 63 = some (.ireturn, 1) := by unfold zzOp; rw [zm_117]; decide +kernel
theorem zl_117_208 : zzGet zzML (zzM 117).2.2.2.2.1 208 = some (2, 124) := by rw [zm_117]; decide +kernel
theorem zl_117_272 : zzGet zzML (zzM 117).2.2.2.2.1 272 = some (2, 68) := by rw [zm_117]; decide +kernel
theorem zm_118 : zzM 118 = (yX6_cell, cX6_cell, 5, (some .int), 6, 4, 1, zzc_118) := rfl
theorem zr_118 : (zzM 118).2.2.2.1 = (some .int) := by rw [zm_118]
theorem zo_118_0 : zzOp 118 0 = some (.aload_n 0, 1) := by unfold zzOp; rw [zm_118]; decide +kernel
theorem zo_118_1 : zzOp 118 1 = some (.iload_n 1, 1) := by unfold zzOp; rw [zm_118]; decide +kernel
theorem zo_118_2 : zzOp 118 2 = some (.invokevirtual 208, 3) := by unfold zzOp; rw [zm_118]; decide +kernel
theorem zo_118_5 : zzOp 118 5 = some (.astore 4, 2) := by unfold zzOp; rw [zm_118]; decide +kernel
theorem zo_118_7 : zzOp 118 7 = some (.aload 4, 2) := by unfold zzOp; rw [zm_118]; decide +kernel
theorem zo_118_9 : zzOp 118 9 = some (.ifnonnull 6, 3) := by unfold zzOp; rw [zm_118]; decide +kernel
theorem zo_118_12 : zzOp 118 12 = some (.bipush (-2), 2) := by unfold zzOp; rw [zm_118]; decide +kernel
theorem zo_118_14 : zzOp 118 14 = some (.ireturn, 1) := by unfold zzOp; rw [zm_118]; decide +kernel
theorem zo_118_15 : zzOp 118 15 = some (.aload 4, 2) := by unfold zzOp; rw [zm_118]; decide +kernel
theorem zo_118_17 : zzOp 118 17 = some (.invokevirtual 239, 3) := by unfold zzOp; rw [zm_118]; decide +kernel
theorem zo_118_20 : zzOp 118 20 = some (.ifCond .eq 6, 3) := by unfold zzOp; rw [zm_118]; decide +kernel
theorem zo_118_23 : zzOp 118 23 = some (.bipush (-11), 2) := by unfold zzOp; rw [zm_118]; decide +kernel
theorem zo_118_25 : zzOp 118 25 = some (.ireturn, 1) := by unfold zzOp; rw [zm_118]; decide +kernel
theorem zo_118_26 : zzOp 118 26 = some (.aload 4, 2) := by unfold zzOp; rw [zm_118]; decide +kernel
theorem zo_118_28 : zzOp 118 28 = some (.iload_n 2, 1) := by unfold zzOp; rw [zm_118]; decide +kernel
theorem zo_118_29 : zzOp 118 29 = some (.invokevirtual 293, 3) := by unfold zzOp; rw [zm_118]; decide +kernel
theorem zo_118_32 : zzOp 118 32 = some (.ifCond .ne 6, 3) := by unfold zzOp; rw [zm_118]; decide +kernel
theorem zo_118_35 : zzOp 118 35 = some (.bipush (-12), 2) := by unfold zzOp; rw [zm_118]; decide +kernel
theorem zo_118_37 : zzOp 118 37 = some (.ireturn, 1) := by unfold zzOp; rw [zm_118]; decide +kernel
theorem zo_118_38 : zzOp 118 38 = some (.aload 4, 2) := by unfold zzOp; rw [zm_118]; decide +kernel
theorem zo_118_40 : zzOp 118 40 = some (.iload_n 2, 1) := by unfold zzOp; rw [zm_118]; decide +kernel
theorem zo_118_41 : zzOp 118 41 = some (.iload_n 3, 1) := by unfold zzOp; rw [zm_118]; decide +kernel
theorem zo_118_42 : zzOp 118 42 = some (.invokevirtual 275, 3) := by unfold zzOp; rw [zm_118]; decide +kernel
theorem zo_118_45 : zzOp 118 45 = some (.iconst 1, 1) := by unfold zzOp; rw [zm_118]; decide +kernel
theorem zo_118_46 : zzOp 118 46 = some (.ireturn, 1) := by unfold zzOp; rw [zm_118]; decide +kernel
theorem zl_118_208 : zzGet zzML (zzM 118).2.2.2.2.1 208 = some (2, 124) := by rw [zm_118]; decide +kernel
theorem zl_118_239 : zzGet zzML (zzM 118).2.2.2.2.1 239 = some (2, 69) := by rw [zm_118]; decide +kernel
theorem zl_118_275 : zzGet zzML (zzM 118).2.2.2.2.1 275 = some (2, 73) := by rw [zm_118]; decide +kernel
theorem zl_118_293 : zzGet zzML (zzM 118).2.2.2.2.1 293 = some (2, 70) := by rw [zm_118]; decide +kernel
theorem zm_119 : zzM 119 = (yX6_copy, cX6_copy, 8, (some .int), 6, 6, 1, zzc_119) := rfl
theorem zr_119 : (zzM 119).2.2.2.1 = (some .int) := by rw [zm_119]
theorem zo_119_0 : zzOp 119 0 = some (.aload_n 0, 1) := by unfold zzOp; rw [zm_119]; decide +kernel
theorem zo_119_1 : zzOp 119 1 = some (.iload_n 1, 1) := by unfold zzOp; rw [zm_119]; decide +kernel
theorem zo_119_2 : zzOp 119 2 = some (.invokevirtual 208, 3) := by unfold zzOp; rw [zm_119]; decide +kernel
theorem zo_119_5 : zzOp 119 5 = some (.astore 6, 2) := by unfold zzOp; rw [zm_119]; decide +kernel
theorem zo_119_7 : zzOp 119 7 = some (.aload_n 0, 1) := by unfold zzOp; rw [zm_119]; decide +kernel
theorem zo_119_8 : zzOp 119 8 = some (.iload_n 3, 1) := by unfold zzOp; rw [zm_119]; decide +kernel
theorem zo_119_9 : zzOp 119 9 = some (.invokevirtual 208, 3) := by unfold zzOp; rw [zm_119]; decide +kernel
theorem zo_119_12 : zzOp 119 12 = some (.astore 7, 2) := by unfold zzOp; rw [zm_119]; decide +kernel
theorem zo_119_14 : zzOp 119 14 = some (.aload 6, 2) := by unfold zzOp; rw [zm_119]; decide +kernel
theorem zo_119_16 : zzOp 119 16 = some (.ifnull 8, 3) := by unfold zzOp; rw [zm_119]; decide +kernel
theorem zo_119_19 : zzOp 119 19 = some (.aload 7, 2) := by unfold zzOp; rw [zm_119]; decide +kernel
theorem zo_119_21 : zzOp 119 21 = some (.ifnonnull 6, 3) := by unfold zzOp; rw [zm_119]; decide +kernel
theorem zo_119_24 : zzOp 119 24 = some (.bipush (-2), 2) := by unfold zzOp; rw [zm_119]; decide +kernel
theorem zo_119_26 : zzOp 119 26 = some (.ireturn, 1) := by unfold zzOp; rw [zm_119]; decide +kernel
theorem zo_119_27 : zzOp 119 27 = some (.aload 6, 2) := by unfold zzOp; rw [zm_119]; decide +kernel
theorem zo_119_29 : zzOp 119 29 = some (.invokevirtual 239, 3) := by unfold zzOp; rw [zm_119]; decide +kernel
theorem zo_119_32 : zzOp 119 32 = some (.ifCond .ne 11, 3) := by unfold zzOp; rw [zm_119]; decide +kernel
theorem zo_119_35 : zzOp 119 35 = some (.aload 7, 2) := by unfold zzOp; rw [zm_119]; decide +kernel
theorem zo_119_37 : zzOp 119 37 = some (.invokevirtual 239, 3) := by unfold zzOp; rw [zm_119]; decide +kernel
theorem zo_119_40 : zzOp 119 40 = some (.ifCond .eq 6, 3) := by unfold zzOp; rw [zm_119]; decide +kernel
theorem zo_119_43 : zzOp 119 43 = some (.bipush (-11), 2) := by unfold zzOp; rw [zm_119]; decide +kernel
theorem zo_119_45 : zzOp 119 45 = some (.ireturn, 1) := by unfold zzOp; rw [zm_119]; decide +kernel
theorem zo_119_46 : zzOp 119 46 = some (.aload 6, 2) := by unfold zzOp; rw [zm_119]; decide +kernel
theorem zo_119_48 : zzOp 119 48 = some (.getfield 294, 3) := by unfold zzOp; rw [zm_119]; decide +kernel
theorem zo_119_51 : zzOp 119 51 = some (.aload 7, 2) := by unfold zzOp; rw [zm_119]; decide +kernel
theorem zo_119_53 : zzOp 119 53 = some (.getfield 294, 3) := by unfold zzOp; rw [zm_119]; decide +kernel
theorem zo_119_56 : zzOp 119 56 = some (.if_icmp .eq 6, 3) := by unfold zzOp; rw [zm_119]; decide +kernel
theorem zo_119_59 : zzOp 119 59 = some (.bipush (-13), 2) := by unfold zzOp; rw [zm_119]; decide +kernel
theorem zo_119_61 : zzOp 119 61 = some (.ireturn, 1) := by unfold zzOp; rw [zm_119]; decide +kernel
theorem zo_119_62 : zzOp 119 62 = some (.aload 6, 2) := by unfold zzOp; rw [zm_119]; decide +kernel
theorem zo_119_64 : zzOp 119 64 = some (.iload_n 2, 1) := by unfold zzOp; rw [zm_119]; decide +kernel
theorem zo_119_65 : zzOp 119 65 = some (.iload 5, 2) := by unfold zzOp; rw [zm_119]; decide +kernel
theorem zo_119_67 : zzOp 119 67 = some (.invokevirtual 297, 3) := by unfold zzOp; rw [zm_119]; decide +kernel
theorem zo_119_70 : zzOp 119 70 = some (.ifCond .eq 15, 3) := by unfold zzOp; rw [zm_119]; decide +kernel
theorem zo_119_73 : zzOp 119 73 = some (.aload 7, 2) := by unfold zzOp; rw [zm_119]; decide +kernel
theorem zo_119_75 : zzOp 119 75 = some (.iload 4, 2) := by unfold zzOp; rw [zm_119]; decide +kernel
theorem zo_119_77 : zzOp 119 77 = some (.iload 5, 2) := by unfold zzOp; rw [zm_119]; decide +kernel
theorem zo_119_79 : zzOp 119 79 = some (.invokevirtual 297, 3) := by unfold zzOp; rw [zm_119]; decide +kernel
theorem zo_119_82 : zzOp 119 82 = some (.ifCond .ne 6, 3) := by unfold zzOp; rw [zm_119]; decide +kernel
theorem zo_119_85 : zzOp 119 85 = some (.bipush (-12), 2) := by unfold zzOp; rw [zm_119]; decide +kernel
theorem zo_119_87 : zzOp 119 87 = some (.ireturn, 1) := by unfold zzOp; rw [zm_119]; decide +kernel
theorem zo_119_88 : zzOp 119 88 = some (.aload 6, 2) := by unfold zzOp; rw [zm_119]; decide +kernel
theorem zo_119_90 : zzOp 119 90 = some (.getfield 300, 3) := by unfold zzOp; rw [zm_119]; decide +kernel
theorem zo_119_93 : zzOp 119 93 = some (.iload_n 2, 1) := by unfold zzOp; rw [zm_119]; decide +kernel
theorem zo_119_94 : zzOp 119 94 = some (.aload 7, 2) := by unfold zzOp; rw [zm_119]; decide +kernel
theorem zo_119_96 : zzOp 119 96 = some (.getfield 300, 3) := by unfold zzOp; rw [zm_119]; decide +kernel
theorem zo_119_99 : zzOp 119 99 = some (.iload 4, 2) := by unfold zzOp; rw [zm_119]; decide +kernel
theorem zo_119_101 : zzOp 119 101 = some (.iload 5, 2) := by unfold zzOp; rw [zm_119]; decide +kernel
theorem zo_119_103 : zzOp 119 103 = some (.invokestatic 303, 3) := by unfold zzOp; rw [zm_119]; decide +kernel
theorem zo_119_106 : zzOp 119 106 = some (.iload 5, 2) := by unfold zzOp; rw [zm_119]; decide +kernel
theorem zo_119_108 : zzOp 119 108 = some (.ireturn, 1) := by unfold zzOp; rw [zm_119]; decide +kernel
theorem zf_119_294 : zzGet zzFL (zzM 119).2.2.2.2.1 294 = some (4, 0) := by rw [zm_119]; decide +kernel
theorem zf_119_300 : zzGet zzFL (zzM 119).2.2.2.2.1 300 = some (4, 2) := by rw [zm_119]; decide +kernel
theorem zl_119_208 : zzGet zzML (zzM 119).2.2.2.2.1 208 = some (2, 124) := by rw [zm_119]; decide +kernel
theorem zl_119_239 : zzGet zzML (zzM 119).2.2.2.2.1 239 = some (2, 69) := by rw [zm_119]; decide +kernel
theorem zl_119_297 : zzGet zzML (zzM 119).2.2.2.2.1 297 = some (2, 71) := by rw [zm_119]; decide +kernel
theorem zl_119_303 : zzGet zzML (zzM 119).2.2.2.2.1 303 = some (5, 0) := by rw [zm_119]; decide +kernel
theorem zm_120 : zzM 120 = (yX6_passengers, cX6_passengers, 9, (some .int), 6, 5, 1, zzc_120) := rfl
theorem zr_120 : (zzM 120).2.2.2.1 = (some .int) := by rw [zm_120]
theorem zo_120_0 : zzOp 120 0 = some (.aload_n 0, 1) := by unfold zzOp; rw [zm_120]; decide +kernel
theorem zo_120_1 : zzOp 120 1 = some (.iload_n 1, 1) := by unfold zzOp; rw [zm_120]; decide +kernel
theorem zo_120_2 : zzOp 120 2 = some (.invokevirtual 208, 3) := by unfold zzOp; rw [zm_120]; decide +kernel
theorem zo_120_5 : zzOp 120 5 = some (.astore 5, 2) := by unfold zzOp; rw [zm_120]; decide +kernel
theorem zo_120_7 : zzOp 120 7 = some (.aload 5, 2) := by unfold zzOp; rw [zm_120]; decide +kernel
theorem zo_120_9 : zzOp 120 9 = some (.ifnull 24, 3) := by unfold zzOp; rw [zm_120]; decide +kernel
theorem zo_120_12 : zzOp 120 12 = some (.iload_n 2, 1) := by unfold zzOp; rw [zm_120]; decide +kernel
theorem zo_120_13 : zzOp 120 13 = some (.ifCond .lt 20, 3) := by unfold zzOp; rw [zm_120]; decide +kernel
theorem zo_120_16 : zzOp 120 16 = some (.iload_n 2, 1) := by unfold zzOp; rw [zm_120]; decide +kernel
theorem zo_120_17 : zzOp 120 17 = some (.iconst 2, 1) := by unfold zzOp; rw [zm_120]; decide +kernel
theorem zo_120_18 : zzOp 120 18 = some (.if_icmp .gt 15, 3) := by unfold zzOp; rw [zm_120]; decide +kernel
theorem zo_120_21 : zzOp 120 21 = some (.iload 4, 2) := by unfold zzOp; rw [zm_120]; decide +kernel
theorem zo_120_23 : zzOp 120 23 = some (.ifCond .lt 10, 3) := by unfold zzOp; rw [zm_120]; decide +kernel
theorem zo_120_26 : zzOp 120 26 = some (.iload 4, 2) := by unfold zzOp; rw [zm_120]; decide +kernel
theorem zo_120_28 : zzOp 120 28 = some (.bipush 8, 2) := by unfold zzOp; rw [zm_120]; decide +kernel
theorem zo_120_30 : zzOp 120 30 = some (.if_icmp .le 6, 3) := by unfold zzOp; rw [zm_120]; decide +kernel
theorem zo_120_33 : zzOp 120 33 = some (.bipush (-2), 2) := by unfold zzOp; rw [zm_120]; decide +kernel
theorem zo_120_35 : zzOp 120 35 = some (.ireturn, 1) := by unfold zzOp; rw [zm_120]; decide +kernel
theorem zo_120_36 : zzOp 120 36 = some (.aload 5, 2) := by unfold zzOp; rw [zm_120]; decide +kernel
theorem zo_120_38 : zzOp 120 38 = some (.invokevirtual 239, 3) := by unfold zzOp; rw [zm_120]; decide +kernel
theorem zo_120_41 : zzOp 120 41 = some (.ifCond .ne 15, 3) := by unfold zzOp; rw [zm_120]; decide +kernel
theorem zo_120_44 : zzOp 120 44 = some (.aload 5, 2) := by unfold zzOp; rw [zm_120]; decide +kernel
theorem zo_120_46 : zzOp 120 46 = some (.getfield 294, 3) := by unfold zzOp; rw [zm_120]; decide +kernel
theorem zo_120_49 : zzOp 120 49 = some (.iload_n 2, 1) := by unfold zzOp; rw [zm_120]; decide +kernel
theorem zo_120_50 : zzOp 120 50 = some (.if_icmp .eq 6, 3) := by unfold zzOp; rw [zm_120]; decide +kernel
theorem zo_120_53 : zzOp 120 53 = some (.bipush (-13), 2) := by unfold zzOp; rw [zm_120]; decide +kernel
theorem zo_120_55 : zzOp 120 55 = some (.ireturn, 1) := by unfold zzOp; rw [zm_120]; decide +kernel
theorem zo_120_56 : zzOp 120 56 = some (.aload 5, 2) := by unfold zzOp; rw [zm_120]; decide +kernel
theorem zo_120_58 : zzOp 120 58 = some (.invokevirtual 239, 3) := by unfold zzOp; rw [zm_120]; decide +kernel
theorem zo_120_61 : zzOp 120 61 = some (.ifCond .eq 6, 3) := by unfold zzOp; rw [zm_120]; decide +kernel
theorem zo_120_64 : zzOp 120 64 = some (.bipush (-11), 2) := by unfold zzOp; rw [zm_120]; decide +kernel
theorem zo_120_66 : zzOp 120 66 = some (.ireturn, 1) := by unfold zzOp; rw [zm_120]; decide +kernel
theorem zo_120_67 : zzOp 120 67 = some (.iconst 0, 1) := by unfold zzOp; rw [zm_120]; decide +kernel
theorem zo_120_68 : zzOp 120 68 = some (.istore 6, 2) := by unfold zzOp; rw [zm_120]; decide +kernel
theorem zo_120_70 : zzOp 120 70 = some (.iconst 0, 1) := by unfold zzOp; rw [zm_120]; decide +kernel
theorem zo_120_71 : zzOp 120 71 = some (.istore 7, 2) := by unfold zzOp; rw [zm_120]; decide +kernel
theorem zo_120_73 : zzOp 120 73 = some (.iload 7, 2) := by unfold zzOp; rw [zm_120]; decide +kernel
theorem zo_120_75 : zzOp 120 75 = some (.iload 4, 2) := by unfold zzOp; rw [zm_120]; decide +kernel
theorem zo_120_77 : zzOp 120 77 = some (.if_icmp .ge 68, 3) := by unfold zzOp; rw [zm_120]; decide +kernel
theorem zo_120_80 : zzOp 120 80 = some (.iload_n 3, 1) := by unfold zzOp; rw [zm_120]; decide +kernel
theorem zo_120_81 : zzOp 120 81 = some (.iconst 2, 1) := by unfold zzOp; rw [zm_120]; decide +kernel
theorem zo_120_82 : zzOp 120 82 = some (.iload 7, 2) := by unfold zzOp; rw [zm_120]; decide +kernel
theorem zo_120_84 : zzOp 120 84 = some (.imul, 1) := by unfold zzOp; rw [zm_120]; decide +kernel
theorem zo_120_85 : zzOp 120 85 = some (.iadd, 1) := by unfold zzOp; rw [zm_120]; decide +kernel
theorem zo_120_86 : zzOp 120 86 = some (.istore 8, 2) := by unfold zzOp; rw [zm_120]; decide +kernel
theorem zo_120_88 : zzOp 120 88 = some (.aload 5, 2) := by unfold zzOp; rw [zm_120]; decide +kernel
theorem zo_120_90 : zzOp 120 90 = some (.iload 8, 2) := by unfold zzOp; rw [zm_120]; decide +kernel
theorem zo_120_92 : zzOp 120 92 = some (.invokevirtual 293, 3) := by unfold zzOp; rw [zm_120]; decide +kernel
theorem zo_120_95 : zzOp 120 95 = some (.ifCond .eq 15, 3) := by unfold zzOp; rw [zm_120]; decide +kernel
theorem zo_120_98 : zzOp 120 98 = some (.aload 5, 2) := by unfold zzOp; rw [zm_120]; decide +kernel
theorem zo_120_100 : zzOp 120 100 = some (.iload 8, 2) := by unfold zzOp; rw [zm_120]; decide +kernel
theorem zo_120_102 : zzOp 120 102 = some (.iconst 1, 1) := by unfold zzOp; rw [zm_120]; decide +kernel
theorem zo_120_103 : zzOp 120 103 = some (.iadd, 1) := by unfold zzOp; rw [zm_120]; decide +kernel
theorem zo_120_104 : zzOp 120 104 = some (.invokevirtual 293, 3) := by unfold zzOp; rw [zm_120]; decide +kernel
theorem zo_120_107 : zzOp 120 107 = some (.ifCond .ne 6, 3) := by unfold zzOp; rw [zm_120]; decide +kernel
theorem zo_120_110 : zzOp 120 110 = some (.bipush (-12), 2) := by unfold zzOp; rw [zm_120]; decide +kernel
theorem zo_120_112 : zzOp 120 112 = some (.ireturn, 1) := by unfold zzOp; rw [zm_120]; decide +kernel
theorem zo_120_113 : zzOp 120 113 = some (.aload_n 0, 1) := by unfold zzOp; rw [zm_120]; decide +kernel
theorem zo_120_114 : zzOp 120 114 = some (.aload 5, 2) := by unfold zzOp; rw [zm_120]; decide +kernel
theorem zo_120_116 : zzOp 120 116 = some (.iload 8, 2) := by unfold zzOp; rw [zm_120]; decide +kernel
theorem zo_120_118 : zzOp 120 118 = some (.invokevirtual 309, 3) := by unfold zzOp; rw [zm_120]; decide +kernel
theorem zo_120_121 : zzOp 120 121 = some (.aload 5, 2) := by unfold zzOp; rw [zm_120]; decide +kernel
theorem zo_120_123 : zzOp 120 123 = some (.iload 8, 2) := by unfold zzOp; rw [zm_120]; decide +kernel
theorem zo_120_125 : zzOp 120 125 = some (.iconst 1, 1) := by unfold zzOp; rw [zm_120]; decide +kernel
theorem zo_120_126 : zzOp 120 126 = some (.iadd, 1) := by unfold zzOp; rw [zm_120]; decide +kernel
theorem zo_120_127 : zzOp 120 127 = some (.invokevirtual 309, 3) := by unfold zzOp; rw [zm_120]; decide +kernel
theorem zo_120_130 : zzOp 120 130 = some (.invokevirtual 312, 3) := by unfold zzOp; rw [zm_120]; decide +kernel
theorem zo_120_133 : zzOp 120 133 = some (.ifCond .lt 6, 3) := by unfold zzOp; rw [zm_120]; decide +kernel
theorem zo_120_136 : zzOp 120 136 = some (.iinc 6 1, 3) := by unfold zzOp; rw [zm_120]; decide +kernel
theorem zo_120_139 : zzOp 120 139 = some (.iinc 7 1, 3) := by unfold zzOp; rw [zm_120]; decide +kernel
theorem zo_120_142 : zzOp 120 142 = some (.goto (-69), 3) := by unfold zzOp; rw [zm_120]; decide +kernel
theorem zo_120_145 : zzOp 120 145 = some (.iload 6, 2) := by unfold zzOp; rw [zm_120]; decide +kernel
theorem zo_120_147 : zzOp 120 147 = some (.ireturn, 1) := by unfold zzOp; rw [zm_120]; decide +kernel
theorem zf_120_294 : zzGet zzFL (zzM 120).2.2.2.2.1 294 = some (4, 0) := by rw [zm_120]; decide +kernel
theorem zl_120_208 : zzGet zzML (zzM 120).2.2.2.2.1 208 = some (2, 124) := by rw [zm_120]; decide +kernel
theorem zl_120_239 : zzGet zzML (zzM 120).2.2.2.2.1 239 = some (2, 69) := by rw [zm_120]; decide +kernel
theorem zl_120_293 : zzGet zzML (zzM 120).2.2.2.2.1 293 = some (2, 70) := by rw [zm_120]; decide +kernel
theorem zl_120_309 : zzGet zzML (zzM 120).2.2.2.2.1 309 = some (2, 72) := by rw [zm_120]; decide +kernel
theorem zl_120_312 : zzGet zzML (zzM 120).2.2.2.2.1 312 = some (2, 84) := by rw [zm_120]; decide +kernel
theorem zm_121 : zzM 121 = (yX6_taken, cX6_taken, 3, (some .int), 6, 3, 1, zzc_121) := rfl
theorem zr_121 : (zzM 121).2.2.2.1 = (some .int) := by rw [zm_121]
theorem zo_121_0 : zzOp 121 0 = some (.iload_n 2, 1) := by unfold zzOp; rw [zm_121]; decide +kernel
theorem zo_121_1 : zzOp 121 1 = some (.ifCond .lt 9, 3) := by unfold zzOp; rw [zm_121]; decide +kernel
theorem zo_121_4 : zzOp 121 4 = some (.iload_n 2, 1) := by unfold zzOp; rw [zm_121]; decide +kernel
theorem zo_121_5 : zzOp 121 5 = some (.bipush 6, 2) := by unfold zzOp; rw [zm_121]; decide +kernel
theorem zo_121_7 : zzOp 121 7 = some (.if_icmp .lt 6, 3) := by unfold zzOp; rw [zm_121]; decide +kernel
theorem zo_121_10 : zzOp 121 10 = some (.bipush (-2), 2) := by unfold zzOp; rw [zm_121]; decide +kernel
theorem zo_121_12 : zzOp 121 12 = some (.ireturn, 1) := by unfold zzOp; rw [zm_121]; decide +kernel
theorem zo_121_13 : zzOp 121 13 = some (.aload_n 0, 1) := by unfold zzOp; rw [zm_121]; decide +kernel
theorem zo_121_14 : zzOp 121 14 = some (.getfield 28, 3) := by unfold zzOp; rw [zm_121]; decide +kernel
theorem zo_121_17 : zzOp 121 17 = some (.iload_n 1, 1) := by unfold zzOp; rw [zm_121]; decide +kernel
theorem zo_121_18 : zzOp 121 18 = some (.invokevirtual 86, 3) := by unfold zzOp; rw [zm_121]; decide +kernel
theorem zo_121_21 : zzOp 121 21 = some (.ifCond .ne 6, 3) := by unfold zzOp; rw [zm_121]; decide +kernel
theorem zo_121_24 : zzOp 121 24 = some (.bipush (-11), 2) := by unfold zzOp; rw [zm_121]; decide +kernel
theorem zo_121_26 : zzOp 121 26 = some (.ireturn, 1) := by unfold zzOp; rw [zm_121]; decide +kernel
theorem zo_121_27 : zzOp 121 27 = some (.aload_n 0, 1) := by unfold zzOp; rw [zm_121]; decide +kernel
theorem zo_121_28 : zzOp 121 28 = some (.getfield 28, 3) := by unfold zzOp; rw [zm_121]; decide +kernel
theorem zo_121_31 : zzOp 121 31 = some (.iload_n 1, 1) := by unfold zzOp; rw [zm_121]; decide +kernel
theorem zo_121_32 : zzOp 121 32 = some (.invokevirtual 130, 3) := by unfold zzOp; rw [zm_121]; decide +kernel
theorem zo_121_35 : zzOp 121 35 = some (.iload_n 2, 1) := by unfold zzOp; rw [zm_121]; decide +kernel
theorem zo_121_36 : zzOp 121 36 = some (.invokestatic 315, 3) := by unfold zzOp; rw [zm_121]; decide +kernel
theorem zo_121_39 : zzOp 121 39 = some (.ifCond .eq 14, 3) := by unfold zzOp; rw [zm_121]; decide +kernel
theorem zo_121_42 : zzOp 121 42 = some (.aload_n 0, 1) := by unfold zzOp; rw [zm_121]; decide +kernel
theorem zo_121_43 : zzOp 121 43 = some (.getfield 28, 3) := by unfold zzOp; rw [zm_121]; decide +kernel
theorem zo_121_46 : zzOp 121 46 = some (.iload_n 1, 1) := by unfold zzOp; rw [zm_121]; decide +kernel
theorem zo_121_47 : zzOp 121 47 = some (.invokevirtual 124, 3) := by unfold zzOp; rw [zm_121]; decide +kernel
theorem zo_121_50 : zzOp 121 50 = some (.goto 5, 3) := by unfold zzOp; rw [zm_121]; decide +kernel
theorem zo_121_53 : zzOp 121 53 = some (.bipush (-13), 2) := by unfold zzOp; rw [zm_121]; decide +kernel
theorem zo_121_55 : zzOp 121 55 = some (.ireturn, 1) := by unfold zzOp; rw [zm_121]; decide +kernel
theorem zf_121_28 : zzGet zzFL (zzM 121).2.2.2.2.1 28 = some (6, 2) := by rw [zm_121]; decide +kernel
theorem zl_121_86 : zzGet zzML (zzM 121).2.2.2.2.1 86 = some (2, 2) := by rw [zm_121]; decide +kernel
theorem zl_121_124 : zzGet zzML (zzM 121).2.2.2.2.1 124 = some (2, 5) := by rw [zm_121]; decide +kernel
theorem zl_121_130 : zzGet zzML (zzM 121).2.2.2.2.1 130 = some (2, 4) := by rw [zm_121]; decide +kernel
theorem zl_121_315 : zzGet zzML (zzM 121).2.2.2.2.1 315 = some (0, 122) := by rw [zm_121]; decide +kernel
theorem zm_122 : zzM 122 = (yX6_isUnder, cX6_isUnder, 4, (some .boolean), 6, 2, 0, zzc_122) := rfl
theorem zr_122 : (zzM 122).2.2.2.1 = (some .boolean) := by rw [zm_122]
theorem zo_122_0 : zzOp 122 0 = some (.iload_n 0, 1) := by unfold zzOp; rw [zm_122]; decide +kernel
theorem zo_122_1 : zzOp 122 1 = some (.istore_n 2, 1) := by unfold zzOp; rw [zm_122]; decide +kernel
theorem zo_122_2 : zzOp 122 2 = some (.iconst 0, 1) := by unfold zzOp; rw [zm_122]; decide +kernel
theorem zo_122_3 : zzOp 122 3 = some (.istore_n 3, 1) := by unfold zzOp; rw [zm_122]; decide +kernel
theorem zo_122_4 : zzOp 122 4 = some (.iload_n 3, 1) := by unfold zzOp; rw [zm_122]; decide +kernel
theorem zo_122_5 : zzOp 122 5 = some (.bipush 6, 2) := by unfold zzOp; rw [zm_122]; decide +kernel
theorem zo_122_7 : zzOp 122 7 = some (.if_icmp .ge 24, 3) := by unfold zzOp; rw [zm_122]; decide +kernel
theorem zo_122_10 : zzOp 122 10 = some (.iload_n 2, 1) := by unfold zzOp; rw [zm_122]; decide +kernel
theorem zo_122_11 : zzOp 122 11 = some (.iload_n 1, 1) := by unfold zzOp; rw [zm_122]; decide +kernel
theorem zo_122_12 : zzOp 122 12 = some (.if_icmp .eq 19, 3) := by unfold zzOp; rw [zm_122]; decide +kernel
theorem zo_122_15 : zzOp 122 15 = some (.iload_n 2, 1) := by unfold zzOp; rw [zm_122]; decide +kernel
theorem zo_122_16 : zzOp 122 16 = some (.iconst (-1), 1) := by unfold zzOp; rw [zm_122]; decide +kernel
theorem zo_122_17 : zzOp 122 17 = some (.if_icmp .eq 14, 3) := by unfold zzOp; rw [zm_122]; decide +kernel
theorem zo_122_20 : zzOp 122 20 = some (.iload_n 2, 1) := by unfold zzOp; rw [zm_122]; decide +kernel
theorem zo_122_21 : zzOp 122 21 = some (.invokestatic 318, 3) := by unfold zzOp; rw [zm_122]; decide +kernel
theorem zo_122_24 : zzOp 122 24 = some (.istore_n 2, 1) := by unfold zzOp; rw [zm_122]; decide +kernel
theorem zo_122_25 : zzOp 122 25 = some (.iinc 3 1, 3) := by unfold zzOp; rw [zm_122]; decide +kernel
theorem zo_122_28 : zzOp 122 28 = some (.goto (-24), 3) := by unfold zzOp; rw [zm_122]; decide +kernel
theorem zo_122_31 : zzOp 122 31 = some (.iload_n 2, 1) := by unfold zzOp; rw [zm_122]; decide +kernel
theorem zo_122_32 : zzOp 122 32 = some (.iload_n 1, 1) := by unfold zzOp; rw [zm_122]; decide +kernel
theorem zo_122_33 : zzOp 122 33 = some (.if_icmp .ne 7, 3) := by unfold zzOp; rw [zm_122]; decide +kernel
theorem zo_122_36 : zzOp 122 36 = some (.iconst 1, 1) := by unfold zzOp; rw [zm_122]; decide +kernel
theorem zo_122_37 : zzOp 122 37 = some (.goto 4, 3) := by unfold zzOp; rw [zm_122]; decide +kernel
theorem zo_122_40 : zzOp 122 40 = some (.iconst 0, 1) := by unfold zzOp; rw [zm_122]; decide +kernel
theorem zo_122_41 : zzOp 122 41 = some (.ireturn, 1) := by unfold zzOp; rw [zm_122]; decide +kernel
theorem zl_122_318 : zzGet zzML (zzM 122).2.2.2.2.1 318 = some (0, 123) := by rw [zm_122]; decide +kernel
theorem zm_123 : zzM 123 = (yX6_kindAbove, cX6_kindAbove, 1, (some .int), 6, 1, 0, zzc_123) := rfl
theorem zr_123 : (zzM 123).2.2.2.1 = (some .int) := by rw [zm_123]
theorem zo_123_0 : zzOp 123 0 = some (.iload_n 0, 1) := by unfold zzOp; rw [zm_123]; decide +kernel
theorem zo_123_1 : zzOp 123 1 = some (.tableswitch 41 1 5 #[35, 35, 37, 39, 35], 35) := by unfold zzOp; rw [zm_123]; decide +kernel
theorem zo_123_36 : zzOp 123 36 = some (.iconst 0, 1) := by unfold zzOp; rw [zm_123]; decide +kernel
theorem zo_123_37 : zzOp 123 37 = some (.ireturn, 1) := by unfold zzOp; rw [zm_123]; decide +kernel
theorem zo_123_38 : zzOp 123 38 = some (.iconst 1, 1) := by unfold zzOp; rw [zm_123]; decide +kernel
theorem zo_123_39 : zzOp 123 39 = some (.ireturn, 1) := by unfold zzOp; rw [zm_123]; decide +kernel
theorem zo_123_40 : zzOp 123 40 = some (.iconst 2, 1) := by unfold zzOp; rw [zm_123]; decide +kernel
theorem zo_123_41 : zzOp 123 41 = some (.ireturn, 1) := by unfold zzOp; rw [zm_123]; decide +kernel
theorem zo_123_42 : zzOp 123 42 = some (.iconst (-1), 1) := by unfold zzOp; rw [zm_123]; decide +kernel
theorem zo_123_43 : zzOp 123 43 = some (.ireturn, 1) := by unfold zzOp; rw [zm_123]; decide +kernel
theorem zm_124 : zzM 124 = (yX6_sheetAt, cX6_sheetAt, 2, (some (.object "BackSeat$Sheet")), 6, 2, 1, zzc_124) := rfl
theorem zr_124 : (zzM 124).2.2.2.1 = (some (.object "BackSeat$Sheet")) := by rw [zm_124]
theorem zo_124_0 : zzOp 124 0 = some (.iload_n 1, 1) := by unfold zzOp; rw [zm_124]; decide +kernel
theorem zo_124_1 : zzOp 124 1 = some (.ifCond .lt 21, 3) := by unfold zzOp; rw [zm_124]; decide +kernel
theorem zo_124_4 : zzOp 124 4 = some (.iload_n 1, 1) := by unfold zzOp; rw [zm_124]; decide +kernel
theorem zo_124_5 : zzOp 124 5 = some (.aload_n 0, 1) := by unfold zzOp; rw [zm_124]; decide +kernel
theorem zo_124_6 : zzOp 124 6 = some (.getfield 58, 3) := by unfold zzOp; rw [zm_124]; decide +kernel
theorem zo_124_9 : zzOp 124 9 = some (.arraylength, 1) := by unfold zzOp; rw [zm_124]; decide +kernel
theorem zo_124_10 : zzOp 124 10 = some (.if_icmp .ge 12, 3) := by unfold zzOp; rw [zm_124]; decide +kernel
theorem zo_124_13 : zzOp 124 13 = some (.aload_n 0, 1) := by unfold zzOp; rw [zm_124]; decide +kernel
theorem zo_124_14 : zzOp 124 14 = some (.getfield 58, 3) := by unfold zzOp; rw [zm_124]; decide +kernel
theorem zo_124_17 : zzOp 124 17 = some (.iload_n 1, 1) := by unfold zzOp; rw [zm_124]; decide +kernel
theorem zo_124_18 : zzOp 124 18 = some (.aaload, 1) := by unfold zzOp; rw [zm_124]; decide +kernel
theorem zo_124_19 : zzOp 124 19 = some (.goto 4, 3) := by unfold zzOp; rw [zm_124]; decide +kernel
theorem zo_124_22 : zzOp 124 22 = some (.aconst_null, 1) := by unfold zzOp; rw [zm_124]; decide +kernel
theorem zo_124_23 : zzOp 124 23 = some (.areturn, 1) := by unfold zzOp; rw [zm_124]; decide +kernel
theorem zf_124_58 : zzGet zzFL (zzM 124).2.2.2.2.1 58 = some (6, 8) := by rw [zm_124]; decide +kernel
theorem zm_125 : zzM 125 = (yX6_itemAt, cX6_itemAt, 2, (some .int), 6, 2, 0, zzc_125) := rfl
theorem zr_125 : (zzM 125).2.2.2.1 = (some .int) := by rw [zm_125]
theorem zo_125_0 : zzOp 125 0 = some (.iload_n 1, 1) := by unfold zzOp; rw [zm_125]; decide +kernel
theorem zo_125_1 : zzOp 125 1 = some (.ifCond .lt 15, 3) := by unfold zzOp; rw [zm_125]; decide +kernel
theorem zo_125_4 : zzOp 125 4 = some (.iload_n 1, 1) := by unfold zzOp; rw [zm_125]; decide +kernel
theorem zo_125_5 : zzOp 125 5 = some (.aload_n 0, 1) := by unfold zzOp; rw [zm_125]; decide +kernel
theorem zo_125_6 : zzOp 125 6 = some (.arraylength, 1) := by unfold zzOp; rw [zm_125]; decide +kernel
theorem zo_125_7 : zzOp 125 7 = some (.if_icmp .ge 9, 3) := by unfold zzOp; rw [zm_125]; decide +kernel
theorem zo_125_10 : zzOp 125 10 = some (.aload_n 0, 1) := by unfold zzOp; rw [zm_125]; decide +kernel
theorem zo_125_11 : zzOp 125 11 = some (.iload_n 1, 1) := by unfold zzOp; rw [zm_125]; decide +kernel
theorem zo_125_12 : zzOp 125 12 = some (.iaload, 1) := by unfold zzOp; rw [zm_125]; decide +kernel
theorem zo_125_13 : zzOp 125 13 = some (.goto 4, 3) := by unfold zzOp; rw [zm_125]; decide +kernel
theorem zo_125_16 : zzOp 125 16 = some (.iconst 0, 1) := by unfold zzOp; rw [zm_125]; decide +kernel
theorem zo_125_17 : zzOp 125 17 = some (.ireturn, 1) := by unfold zzOp; rw [zm_125]; decide +kernel
theorem zm_126 : zzM 126 = (yX6_put, cX6_put, 3, none, 6, 3, 0, zzc_126) := rfl
theorem zr_126 : (zzM 126).2.2.2.1 = none := by rw [zm_126]
theorem zo_126_0 : zzOp 126 0 = some (.iload_n 1, 1) := by unfold zzOp; rw [zm_126]; decide +kernel
theorem zo_126_1 : zzOp 126 1 = some (.ifCond .lt 13, 3) := by unfold zzOp; rw [zm_126]; decide +kernel
theorem zo_126_4 : zzOp 126 4 = some (.iload_n 1, 1) := by unfold zzOp; rw [zm_126]; decide +kernel
theorem zo_126_5 : zzOp 126 5 = some (.aload_n 0, 1) := by unfold zzOp; rw [zm_126]; decide +kernel
theorem zo_126_6 : zzOp 126 6 = some (.arraylength, 1) := by unfold zzOp; rw [zm_126]; decide +kernel
theorem zo_126_7 : zzOp 126 7 = some (.if_icmp .ge 7, 3) := by unfold zzOp; rw [zm_126]; decide +kernel
theorem zo_126_10 : zzOp 126 10 = some (.aload_n 0, 1) := by unfold zzOp; rw [zm_126]; decide +kernel
theorem zo_126_11 : zzOp 126 11 = some (.iload_n 1, 1) := by unfold zzOp; rw [zm_126]; decide +kernel
theorem zo_126_12 : zzOp 126 12 = some (.iload_n 2, 1) := by unfold zzOp; rw [zm_126]; decide +kernel
theorem zo_126_13 : zzOp 126 13 = some (.iastore, 1) := by unfold zzOp; rw [zm_126]; decide +kernel
theorem zo_126_14 : zzOp 126 14 = some (.return_, 1) := by unfold zzOp; rw [zm_126]; decide +kernel
theorem zm_127 : zzM 127 = (yX6_swapItem, cX6_swapItem, 4, (some .int), 6, 3, 0, zzc_127) := rfl
theorem zr_127 : (zzM 127).2.2.2.1 = (some .int) := by rw [zm_127]
theorem zo_127_0 : zzOp 127 0 = some (.aload_n 0, 1) := by unfold zzOp; rw [zm_127]; decide +kernel
theorem zo_127_1 : zzOp 127 1 = some (.iload_n 1, 1) := by unfold zzOp; rw [zm_127]; decide +kernel
theorem zo_127_2 : zzOp 127 2 = some (.invokestatic 179, 3) := by unfold zzOp; rw [zm_127]; decide +kernel
theorem zo_127_5 : zzOp 127 5 = some (.istore_n 3, 1) := by unfold zzOp; rw [zm_127]; decide +kernel
theorem zo_127_6 : zzOp 127 6 = some (.aload_n 0, 1) := by unfold zzOp; rw [zm_127]; decide +kernel
theorem zo_127_7 : zzOp 127 7 = some (.iload_n 1, 1) := by unfold zzOp; rw [zm_127]; decide +kernel
theorem zo_127_8 : zzOp 127 8 = some (.iload_n 2, 1) := by unfold zzOp; rw [zm_127]; decide +kernel
theorem zo_127_9 : zzOp 127 9 = some (.invokestatic 268, 3) := by unfold zzOp; rw [zm_127]; decide +kernel
theorem zo_127_12 : zzOp 127 12 = some (.iload_n 3, 1) := by unfold zzOp; rw [zm_127]; decide +kernel
theorem zo_127_13 : zzOp 127 13 = some (.ireturn, 1) := by unfold zzOp; rw [zm_127]; decide +kernel
theorem zl_127_179 : zzGet zzML (zzM 127).2.2.2.2.1 179 = some (0, 125) := by rw [zm_127]; decide +kernel
theorem zl_127_268 : zzGet zzML (zzM 127).2.2.2.2.1 268 = some (0, 126) := by rw [zm_127]; decide +kernel
theorem zm_128 : zzM 128 = (yX6_fill, cX6_fill, 3, none, 6, 2, 0, zzc_128) := rfl
theorem zr_128 : (zzM 128).2.2.2.1 = none := by rw [zm_128]
theorem zo_128_0 : zzOp 128 0 = some (.iconst 0, 1) := by unfold zzOp; rw [zm_128]; decide +kernel
theorem zo_128_1 : zzOp 128 1 = some (.istore_n 2, 1) := by unfold zzOp; rw [zm_128]; decide +kernel
theorem zo_128_2 : zzOp 128 2 = some (.iload_n 2, 1) := by unfold zzOp; rw [zm_128]; decide +kernel
theorem zo_128_3 : zzOp 128 3 = some (.aload_n 0, 1) := by unfold zzOp; rw [zm_128]; decide +kernel
theorem zo_128_4 : zzOp 128 4 = some (.arraylength, 1) := by unfold zzOp; rw [zm_128]; decide +kernel
theorem zo_128_5 : zzOp 128 5 = some (.if_icmp .ge 13, 3) := by unfold zzOp; rw [zm_128]; decide +kernel
theorem zo_128_8 : zzOp 128 8 = some (.aload_n 0, 1) := by unfold zzOp; rw [zm_128]; decide +kernel
theorem zo_128_9 : zzOp 128 9 = some (.iload_n 2, 1) := by unfold zzOp; rw [zm_128]; decide +kernel
theorem zo_128_10 : zzOp 128 10 = some (.iload_n 1, 1) := by unfold zzOp; rw [zm_128]; decide +kernel
theorem zo_128_11 : zzOp 128 11 = some (.iastore, 1) := by unfold zzOp; rw [zm_128]; decide +kernel
theorem zo_128_12 : zzOp 128 12 = some (.iinc 2 1, 3) := by unfold zzOp; rw [zm_128]; decide +kernel
theorem zo_128_15 : zzOp 128 15 = some (.goto (-13), 3) := by unfold zzOp; rw [zm_128]; decide +kernel
theorem zo_128_18 : zzOp 128 18 = some (.return_, 1) := by unfold zzOp; rw [zm_128]; decide +kernel
theorem zm_129 : zzM 129 = (yX6_fillFrom, cX6_fillFrom, 2, none, 6, 2, 0, zzc_129) := rfl
theorem zr_129 : (zzM 129).2.2.2.1 = none := by rw [zm_129]
theorem zo_129_0 : zzOp 129 0 = some (.aload_n 0, 1) := by unfold zzOp; rw [zm_129]; decide +kernel
theorem zo_129_1 : zzOp 129 1 = some (.arraylength, 1) := by unfold zzOp; rw [zm_129]; decide +kernel
theorem zo_129_2 : zzOp 129 2 = some (.aload_n 1, 1) := by unfold zzOp; rw [zm_129]; decide +kernel
theorem zo_129_3 : zzOp 129 3 = some (.arraylength, 1) := by unfold zzOp; rw [zm_129]; decide +kernel
theorem zo_129_4 : zzOp 129 4 = some (.if_icmp .ne 12, 3) := by unfold zzOp; rw [zm_129]; decide +kernel
theorem zo_129_7 : zzOp 129 7 = some (.aload_n 1, 1) := by unfold zzOp; rw [zm_129]; decide +kernel
theorem zo_129_8 : zzOp 129 8 = some (.iconst 0, 1) := by unfold zzOp; rw [zm_129]; decide +kernel
theorem zo_129_9 : zzOp 129 9 = some (.aload_n 0, 1) := by unfold zzOp; rw [zm_129]; decide +kernel
theorem zo_129_10 : zzOp 129 10 = some (.iconst 0, 1) := by unfold zzOp; rw [zm_129]; decide +kernel
theorem zo_129_11 : zzOp 129 11 = some (.aload_n 0, 1) := by unfold zzOp; rw [zm_129]; decide +kernel
theorem zo_129_12 : zzOp 129 12 = some (.arraylength, 1) := by unfold zzOp; rw [zm_129]; decide +kernel
theorem zo_129_13 : zzOp 129 13 = some (.invokestatic 303, 3) := by unfold zzOp; rw [zm_129]; decide +kernel
theorem zo_129_16 : zzOp 129 16 = some (.return_, 1) := by unfold zzOp; rw [zm_129]; decide +kernel
theorem zl_129_303 : zzGet zzML (zzM 129).2.2.2.2.1 303 = some (5, 0) := by rw [zm_129]; decide +kernel
theorem zm_130 : zzM 130 = (yX6_pairSeat, cX6_pairSeat, 1, (some .int), 6, 1, 0, zzc_130) := rfl
theorem zr_130 : (zzM 130).2.2.2.1 = (some .int) := by rw [zm_130]
theorem zo_130_0 : zzOp 130 0 = some (.iload_n 0, 1) := by unfold zzOp; rw [zm_130]; decide +kernel
theorem zo_130_1 : zzOp 130 1 = some (.iconst (-1), 1) := by unfold zzOp; rw [zm_130]; decide +kernel
theorem zo_130_2 : zzOp 130 2 = some (.if_icmp .ne 7, 3) := by unfold zzOp; rw [zm_130]; decide +kernel
theorem zo_130_5 : zzOp 130 5 = some (.iconst (-1), 1) := by unfold zzOp; rw [zm_130]; decide +kernel
theorem zo_130_6 : zzOp 130 6 = some (.goto 18, 3) := by unfold zzOp; rw [zm_130]; decide +kernel
theorem zo_130_9 : zzOp 130 9 = some (.iload_n 0, 1) := by unfold zzOp; rw [zm_130]; decide +kernel
theorem zo_130_10 : zzOp 130 10 = some (.iconst 2, 1) := by unfold zzOp; rw [zm_130]; decide +kernel
theorem zo_130_11 : zzOp 130 11 = some (.irem, 1) := by unfold zzOp; rw [zm_130]; decide +kernel
theorem zo_130_12 : zzOp 130 12 = some (.ifCond .ne 9, 3) := by unfold zzOp; rw [zm_130]; decide +kernel
theorem zo_130_15 : zzOp 130 15 = some (.iload_n 0, 1) := by unfold zzOp; rw [zm_130]; decide +kernel
theorem zo_130_16 : zzOp 130 16 = some (.iconst 1, 1) := by unfold zzOp; rw [zm_130]; decide +kernel
theorem zo_130_17 : zzOp 130 17 = some (.iadd, 1) := by unfold zzOp; rw [zm_130]; decide +kernel
theorem zo_130_18 : zzOp 130 18 = some (.goto 6, 3) := by unfold zzOp; rw [zm_130]; decide +kernel
theorem zo_130_21 : zzOp 130 21 = some (.iload_n 0, 1) := by unfold zzOp; rw [zm_130]; decide +kernel
theorem zo_130_22 : zzOp 130 22 = some (.iconst 1, 1) := by unfold zzOp; rw [zm_130]; decide +kernel
theorem zo_130_23 : zzOp 130 23 = some (.isub, 1) := by unfold zzOp; rw [zm_130]; decide +kernel
theorem zo_130_24 : zzOp 130 24 = some (.ireturn, 1) := by unfold zzOp; rw [zm_130]; decide +kernel
theorem zm_131 : zzM 131 = (yX6_crossSeat, cX6_crossSeat, 1, (some .int), 6, 1, 0, zzc_131) := rfl
theorem zr_131 : (zzM 131).2.2.2.1 = (some .int) := by rw [zm_131]
theorem zo_131_0 : zzOp 131 0 = some (.iload_n 0, 1) := by unfold zzOp; rw [zm_131]; decide +kernel
theorem zo_131_1 : zzOp 131 1 = some (.bipush 21, 2) := by unfold zzOp; rw [zm_131]; decide +kernel
theorem zo_131_3 : zzOp 131 3 = some (.if_icmp .ne 8, 3) := by unfold zzOp; rw [zm_131]; decide +kernel
theorem zo_131_6 : zzOp 131 6 = some (.bipush 22, 2) := by unfold zzOp; rw [zm_131]; decide +kernel
theorem zo_131_8 : zzOp 131 8 = some (.goto 15, 3) := by unfold zzOp; rw [zm_131]; decide +kernel
theorem zo_131_11 : zzOp 131 11 = some (.iload_n 0, 1) := by unfold zzOp; rw [zm_131]; decide +kernel
theorem zo_131_12 : zzOp 131 12 = some (.bipush 22, 2) := by unfold zzOp; rw [zm_131]; decide +kernel
theorem zo_131_14 : zzOp 131 14 = some (.if_icmp .ne 8, 3) := by unfold zzOp; rw [zm_131]; decide +kernel
theorem zo_131_17 : zzOp 131 17 = some (.bipush 21, 2) := by unfold zzOp; rw [zm_131]; decide +kernel
theorem zo_131_19 : zzOp 131 19 = some (.goto 4, 3) := by unfold zzOp; rw [zm_131]; decide +kernel
theorem zo_131_22 : zzOp 131 22 = some (.iconst (-1), 1) := by unfold zzOp; rw [zm_131]; decide +kernel
theorem zo_131_23 : zzOp 131 23 = some (.ireturn, 1) := by unfold zzOp; rw [zm_131]; decide +kernel
theorem zm_132 : zzM 132 = (yX6_noiseBy, cX6_noiseBy, 7, (some .int), 6, 5, 0, zzc_132) := rfl
theorem zr_132 : (zzM 132).2.2.2.1 = (some .int) := by rw [zm_132]
theorem zo_132_0 : zzOp 132 0 = some (.iconst 2, 1) := by unfold zzOp; rw [zm_132]; decide +kernel
theorem zo_132_1 : zzOp 132 1 = some (.iload_n 1, 1) := by unfold zzOp; rw [zm_132]; decide +kernel
theorem zo_132_2 : zzOp 132 2 = some (.imul, 1) := by unfold zzOp; rw [zm_132]; decide +kernel
theorem zo_132_3 : zzOp 132 3 = some (.iload_n 2, 1) := by unfold zzOp; rw [zm_132]; decide +kernel
theorem zo_132_4 : zzOp 132 4 = some (.iconst 5, 1) := by unfold zzOp; rw [zm_132]; decide +kernel
theorem zo_132_5 : zzOp 132 5 = some (.if_icmp .ne 7, 3) := by unfold zzOp; rw [zm_132]; decide +kernel
theorem zo_132_8 : zzOp 132 8 = some (.iload_n 3, 1) := by unfold zzOp; rw [zm_132]; decide +kernel
theorem zo_132_9 : zzOp 132 9 = some (.goto 4, 3) := by unfold zzOp; rw [zm_132]; decide +kernel
theorem zo_132_12 : zzOp 132 12 = some (.iconst 0, 1) := by unfold zzOp; rw [zm_132]; decide +kernel
theorem zo_132_13 : zzOp 132 13 = some (.iadd, 1) := by unfold zzOp; rw [zm_132]; decide +kernel
theorem zo_132_14 : zzOp 132 14 = some (.istore 5, 2) := by unfold zzOp; rw [zm_132]; decide +kernel
theorem zo_132_16 : zzOp 132 16 = some (.iload_n 1, 1) := by unfold zzOp; rw [zm_132]; decide +kernel
theorem zo_132_17 : zzOp 132 17 = some (.iconst 2, 1) := by unfold zzOp; rw [zm_132]; decide +kernel
theorem zo_132_18 : zzOp 132 18 = some (.idiv, 1) := by unfold zzOp; rw [zm_132]; decide +kernel
theorem zo_132_19 : zzOp 132 19 = some (.istore 6, 2) := by unfold zzOp; rw [zm_132]; decide +kernel
theorem zo_132_21 : zzOp 132 21 = some (.iload_n 0, 1) := by unfold zzOp; rw [zm_132]; decide +kernel
theorem zo_132_22 : zzOp 132 22 = some (.tableswitch 61 1 5 #[34, 37, 40, 54, 59], 34) := by unfold zzOp; rw [zm_132]; decide +kernel
theorem zo_132_56 : zzOp 132 56 = some (.iload 5, 2) := by unfold zzOp; rw [zm_132]; decide +kernel
theorem zo_132_58 : zzOp 132 58 = some (.ireturn, 1) := by unfold zzOp; rw [zm_132]; decide +kernel
theorem zo_132_59 : zzOp 132 59 = some (.iload 6, 2) := by unfold zzOp; rw [zm_132]; decide +kernel
theorem zo_132_61 : zzOp 132 61 = some (.ireturn, 1) := by unfold zzOp; rw [zm_132]; decide +kernel
theorem zo_132_62 : zzOp 132 62 = some (.iload 4, 2) := by unfold zzOp; rw [zm_132]; decide +kernel
theorem zo_132_64 : zzOp 132 64 = some (.ifCond .eq 7, 3) := by unfold zzOp; rw [zm_132]; decide +kernel
theorem zo_132_67 : zzOp 132 67 = some (.iconst 0, 1) := by unfold zzOp; rw [zm_132]; decide +kernel
theorem zo_132_68 : zzOp 132 68 = some (.goto 7, 3) := by unfold zzOp; rw [zm_132]; decide +kernel
theorem zo_132_71 : zzOp 132 71 = some (.iload 5, 2) := by unfold zzOp; rw [zm_132]; decide +kernel
theorem zo_132_73 : zzOp 132 73 = some (.iconst 5, 1) := by unfold zzOp; rw [zm_132]; decide +kernel
theorem zo_132_74 : zzOp 132 74 = some (.iadd, 1) := by unfold zzOp; rw [zm_132]; decide +kernel
theorem zo_132_75 : zzOp 132 75 = some (.ireturn, 1) := by unfold zzOp; rw [zm_132]; decide +kernel
theorem zo_132_76 : zzOp 132 76 = some (.iload 6, 2) := by unfold zzOp; rw [zm_132]; decide +kernel
theorem zo_132_78 : zzOp 132 78 = some (.iload_n 3, 1) := by unfold zzOp; rw [zm_132]; decide +kernel
theorem zo_132_79 : zzOp 132 79 = some (.iadd, 1) := by unfold zzOp; rw [zm_132]; decide +kernel
theorem zo_132_80 : zzOp 132 80 = some (.ireturn, 1) := by unfold zzOp; rw [zm_132]; decide +kernel
theorem zo_132_81 : zzOp 132 81 = some (.iconst 0, 1) := by unfold zzOp; rw [zm_132]; decide +kernel
theorem zo_132_82 : zzOp 132 82 = some (.ireturn, 1) := by unfold zzOp; rw [zm_132]; decide +kernel
theorem zo_132_83 : zzOp 132 83 = some (.iload_n 1, 1) := by unfold zzOp; rw [zm_132]; decide +kernel
theorem zo_132_84 : zzOp 132 84 = some (.ireturn, 1) := by unfold zzOp; rw [zm_132]; decide +kernel
theorem zm_133 : zzM 133 = (yX6_queasyBy, cX6_queasyBy, 4, (some .int), 6, 3, 0, zzc_133) := rfl
theorem zr_133 : (zzM 133).2.2.2.1 = (some .int) := by rw [zm_133]
theorem zo_133_0 : zzOp 133 0 = some (.iconst 2, 1) := by unfold zzOp; rw [zm_133]; decide +kernel
theorem zo_133_1 : zzOp 133 1 = some (.iload_n 1, 1) := by unfold zzOp; rw [zm_133]; decide +kernel
theorem zo_133_2 : zzOp 133 2 = some (.imul, 1) := by unfold zzOp; rw [zm_133]; decide +kernel
theorem zo_133_3 : zzOp 133 3 = some (.iload_n 2, 1) := by unfold zzOp; rw [zm_133]; decide +kernel
theorem zo_133_4 : zzOp 133 4 = some (.iadd, 1) := by unfold zzOp; rw [zm_133]; decide +kernel
theorem zo_133_5 : zzOp 133 5 = some (.istore_n 3, 1) := by unfold zzOp; rw [zm_133]; decide +kernel
theorem zo_133_6 : zzOp 133 6 = some (.iload_n 0, 1) := by unfold zzOp; rw [zm_133]; decide +kernel
theorem zo_133_7 : zzOp 133 7 = some (.tableswitch 48 2 5 #[29, 31, 42, 46], 29) := by unfold zzOp; rw [zm_133]; decide +kernel
theorem zo_133_36 : zzOp 133 36 = some (.iload_n 3, 1) := by unfold zzOp; rw [zm_133]; decide +kernel
theorem zo_133_37 : zzOp 133 37 = some (.ireturn, 1) := by unfold zzOp; rw [zm_133]; decide +kernel
theorem zo_133_38 : zzOp 133 38 = some (.iload_n 2, 1) := by unfold zzOp; rw [zm_133]; decide +kernel
theorem zo_133_39 : zzOp 133 39 = some (.iconst 5, 1) := by unfold zzOp; rw [zm_133]; decide +kernel
theorem zo_133_40 : zzOp 133 40 = some (.if_icmp .ne 7, 3) := by unfold zzOp; rw [zm_133]; decide +kernel
theorem zo_133_43 : zzOp 133 43 = some (.iconst 0, 1) := by unfold zzOp; rw [zm_133]; decide +kernel
theorem zo_133_44 : zzOp 133 44 = some (.goto 4, 3) := by unfold zzOp; rw [zm_133]; decide +kernel
theorem zo_133_47 : zzOp 133 47 = some (.iload_n 1, 1) := by unfold zzOp; rw [zm_133]; decide +kernel
theorem zo_133_48 : zzOp 133 48 = some (.ireturn, 1) := by unfold zzOp; rw [zm_133]; decide +kernel
theorem zo_133_49 : zzOp 133 49 = some (.iload_n 3, 1) := by unfold zzOp; rw [zm_133]; decide +kernel
theorem zo_133_50 : zzOp 133 50 = some (.iconst 2, 1) := by unfold zzOp; rw [zm_133]; decide +kernel
theorem zo_133_51 : zzOp 133 51 = some (.idiv, 1) := by unfold zzOp; rw [zm_133]; decide +kernel
theorem zo_133_52 : zzOp 133 52 = some (.ireturn, 1) := by unfold zzOp; rw [zm_133]; decide +kernel
theorem zo_133_53 : zzOp 133 53 = some (.iconst 0, 1) := by unfold zzOp; rw [zm_133]; decide +kernel
theorem zo_133_54 : zzOp 133 54 = some (.ireturn, 1) := by unfold zzOp; rw [zm_133]; decide +kernel
theorem zo_133_55 : zzOp 133 55 = some (.iload_n 1, 1) := by unfold zzOp; rw [zm_133]; decide +kernel
theorem zo_133_56 : zzOp 133 56 = some (.ireturn, 1) := by unfold zzOp; rw [zm_133]; decide +kernel
theorem zm_134 : zzM 134 = (yX6_gladBy, cX6_gladBy, 6, (some .int), 6, 4, 0, zzc_134) := rfl
theorem zr_134 : (zzM 134).2.2.2.1 = (some .int) := by rw [zm_134]
theorem zo_134_0 : zzOp 134 0 = some (.iload_n 3, 1) := by unfold zzOp; rw [zm_134]; decide +kernel
theorem zo_134_1 : zzOp 134 1 = some (.ifCond .eq 10, 3) := by unfold zzOp; rw [zm_134]; decide +kernel
theorem zo_134_4 : zzOp 134 4 = some (.iload_n 1, 1) := by unfold zzOp; rw [zm_134]; decide +kernel
theorem zo_134_5 : zzOp 134 5 = some (.bipush 10, 2) := by unfold zzOp; rw [zm_134]; decide +kernel
theorem zo_134_7 : zzOp 134 7 = some (.iadd, 1) := by unfold zzOp; rw [zm_134]; decide +kernel
theorem zo_134_8 : zzOp 134 8 = some (.goto 4, 3) := by unfold zzOp; rw [zm_134]; decide +kernel
theorem zo_134_11 : zzOp 134 11 = some (.iload_n 1, 1) := by unfold zzOp; rw [zm_134]; decide +kernel
theorem zo_134_12 : zzOp 134 12 = some (.istore 4, 2) := by unfold zzOp; rw [zm_134]; decide +kernel
theorem zo_134_14 : zzOp 134 14 = some (.iload_n 2, 1) := by unfold zzOp; rw [zm_134]; decide +kernel
theorem zo_134_15 : zzOp 134 15 = some (.iconst 5, 1) := by unfold zzOp; rw [zm_134]; decide +kernel
theorem zo_134_16 : zzOp 134 16 = some (.if_icmp .ne 10, 3) := by unfold zzOp; rw [zm_134]; decide +kernel
theorem zo_134_19 : zzOp 134 19 = some (.iload 4, 2) := by unfold zzOp; rw [zm_134]; decide +kernel
theorem zo_134_21 : zzOp 134 21 = some (.iconst 5, 1) := by unfold zzOp; rw [zm_134]; decide +kernel
theorem zo_134_22 : zzOp 134 22 = some (.iadd, 1) := by unfold zzOp; rw [zm_134]; decide +kernel
theorem zo_134_23 : zzOp 134 23 = some (.goto 5, 3) := by unfold zzOp; rw [zm_134]; decide +kernel
theorem zo_134_26 : zzOp 134 26 = some (.iload 4, 2) := by unfold zzOp; rw [zm_134]; decide +kernel
theorem zo_134_28 : zzOp 134 28 = some (.istore 5, 2) := by unfold zzOp; rw [zm_134]; decide +kernel
theorem zo_134_30 : zzOp 134 30 = some (.iload_n 0, 1) := by unfold zzOp; rw [zm_134]; decide +kernel
theorem zo_134_31 : zzOp 134 31 = some (.tableswitch 51 1 5 #[33, 36, 41, 46, 48], 33) := by unfold zzOp; rw [zm_134]; decide +kernel
theorem zo_134_64 : zzOp 134 64 = some (.iload 5, 2) := by unfold zzOp; rw [zm_134]; decide +kernel
theorem zo_134_66 : zzOp 134 66 = some (.ireturn, 1) := by unfold zzOp; rw [zm_134]; decide +kernel
theorem zo_134_67 : zzOp 134 67 = some (.iload 4, 2) := by unfold zzOp; rw [zm_134]; decide +kernel
theorem zo_134_69 : zzOp 134 69 = some (.iload_n 2, 1) := by unfold zzOp; rw [zm_134]; decide +kernel
theorem zo_134_70 : zzOp 134 70 = some (.isub, 1) := by unfold zzOp; rw [zm_134]; decide +kernel
theorem zo_134_71 : zzOp 134 71 = some (.ireturn, 1) := by unfold zzOp; rw [zm_134]; decide +kernel
theorem zo_134_72 : zzOp 134 72 = some (.iconst 2, 1) := by unfold zzOp; rw [zm_134]; decide +kernel
theorem zo_134_73 : zzOp 134 73 = some (.iload 5, 2) := by unfold zzOp; rw [zm_134]; decide +kernel
theorem zo_134_75 : zzOp 134 75 = some (.imul, 1) := by unfold zzOp; rw [zm_134]; decide +kernel
theorem zo_134_76 : zzOp 134 76 = some (.ireturn, 1) := by unfold zzOp; rw [zm_134]; decide +kernel
theorem zo_134_77 : zzOp 134 77 = some (.iconst 3, 1) := by unfold zzOp; rw [zm_134]; decide +kernel
theorem zo_134_78 : zzOp 134 78 = some (.ireturn, 1) := by unfold zzOp; rw [zm_134]; decide +kernel
theorem zo_134_79 : zzOp 134 79 = some (.iload_n 1, 1) := by unfold zzOp; rw [zm_134]; decide +kernel
theorem zo_134_80 : zzOp 134 80 = some (.ineg, 1) := by unfold zzOp; rw [zm_134]; decide +kernel
theorem zo_134_81 : zzOp 134 81 = some (.ireturn, 1) := by unfold zzOp; rw [zm_134]; decide +kernel
theorem zo_134_82 : zzOp 134 82 = some (.iload 4, 2) := by unfold zzOp; rw [zm_134]; decide +kernel
theorem zo_134_84 : zzOp 134 84 = some (.ireturn, 1) := by unfold zzOp; rw [zm_134]; decide +kernel
theorem zm_135 : zzM 135 = (yX6_bounded, cX6_bounded, 3, (some .int), 6, 3, 0, zzc_135) := rfl
theorem zr_135 : (zzM 135).2.2.2.1 = (some .int) := by rw [zm_135]
theorem zo_135_0 : zzOp 135 0 = some (.iload_n 0, 1) := by unfold zzOp; rw [zm_135]; decide +kernel
theorem zo_135_1 : zzOp 135 1 = some (.iload_n 1, 1) := by unfold zzOp; rw [zm_135]; decide +kernel
theorem zo_135_2 : zzOp 135 2 = some (.if_icmp .ge 7, 3) := by unfold zzOp; rw [zm_135]; decide +kernel
theorem zo_135_5 : zzOp 135 5 = some (.iload_n 1, 1) := by unfold zzOp; rw [zm_135]; decide +kernel
theorem zo_135_6 : zzOp 135 6 = some (.goto 13, 3) := by unfold zzOp; rw [zm_135]; decide +kernel
theorem zo_135_9 : zzOp 135 9 = some (.iload_n 0, 1) := by unfold zzOp; rw [zm_135]; decide +kernel
theorem zo_135_10 : zzOp 135 10 = some (.iload_n 2, 1) := by unfold zzOp; rw [zm_135]; decide +kernel
theorem zo_135_11 : zzOp 135 11 = some (.if_icmp .le 7, 3) := by unfold zzOp; rw [zm_135]; decide +kernel
theorem zo_135_14 : zzOp 135 14 = some (.iload_n 2, 1) := by unfold zzOp; rw [zm_135]; decide +kernel
theorem zo_135_15 : zzOp 135 15 = some (.goto 4, 3) := by unfold zzOp; rw [zm_135]; decide +kernel
theorem zo_135_18 : zzOp 135 18 = some (.iload_n 0, 1) := by unfold zzOp; rw [zm_135]; decide +kernel
theorem zo_135_19 : zzOp 135 19 = some (.ireturn, 1) := by unfold zzOp; rw [zm_135]; decide +kernel
theorem zm_136 : zzM 136 = (yX7_in, cX7_in, 6, (some .boolean), 7, 3, 0, zzc_136) := rfl
theorem zr_136 : (zzM 136).2.2.2.1 = (some .boolean) := by rw [zm_136]
theorem zo_136_0 : zzOp 136 0 = some (.lload_n 0, 1) := by unfold zzOp; rw [zm_136]; decide +kernel
theorem zo_136_1 : zzOp 136 1 = some (.lload_n 2, 1) := by unfold zzOp; rw [zm_136]; decide +kernel
theorem zo_136_2 : zzOp 136 2 = some (.lcmp, 1) := by unfold zzOp; rw [zm_136]; decide +kernel
theorem zo_136_3 : zzOp 136 3 = some (.ifCond .lt 14, 3) := by unfold zzOp; rw [zm_136]; decide +kernel
theorem zo_136_6 : zzOp 136 6 = some (.lload_n 0, 1) := by unfold zzOp; rw [zm_136]; decide +kernel
theorem zo_136_7 : zzOp 136 7 = some (.lload 4, 2) := by unfold zzOp; rw [zm_136]; decide +kernel
theorem zo_136_9 : zzOp 136 9 = some (.lcmp, 1) := by unfold zzOp; rw [zm_136]; decide +kernel
theorem zo_136_10 : zzOp 136 10 = some (.ifCond .gt 7, 3) := by unfold zzOp; rw [zm_136]; decide +kernel
theorem zo_136_13 : zzOp 136 13 = some (.iconst 1, 1) := by unfold zzOp; rw [zm_136]; decide +kernel
theorem zo_136_14 : zzOp 136 14 = some (.goto 4, 3) := by unfold zzOp; rw [zm_136]; decide +kernel
theorem zo_136_17 : zzOp 136 17 = some (.iconst 0, 1) := by unfold zzOp; rw [zm_136]; decide +kernel
theorem zo_136_18 : zzOp 136 18 = some (.ireturn, 1) := by unfold zzOp; rw [zm_136]; decide +kernel
theorem zm_137 : zzM 137 = (yX7_within, cX7_within, 3, (some .int), 7, 3, 0, zzc_137) := rfl
theorem zr_137 : (zzM 137).2.2.2.1 = (some .int) := by rw [zm_137]
theorem zo_137_0 : zzOp 137 0 = some (.iload_n 0, 1) := by unfold zzOp; rw [zm_137]; decide +kernel
theorem zo_137_1 : zzOp 137 1 = some (.iload_n 1, 1) := by unfold zzOp; rw [zm_137]; decide +kernel
theorem zo_137_2 : zzOp 137 2 = some (.if_icmp .ge 7, 3) := by unfold zzOp; rw [zm_137]; decide +kernel
theorem zo_137_5 : zzOp 137 5 = some (.iload_n 1, 1) := by unfold zzOp; rw [zm_137]; decide +kernel
theorem zo_137_6 : zzOp 137 6 = some (.goto 13, 3) := by unfold zzOp; rw [zm_137]; decide +kernel
theorem zo_137_9 : zzOp 137 9 = some (.iload_n 0, 1) := by unfold zzOp; rw [zm_137]; decide +kernel
theorem zo_137_10 : zzOp 137 10 = some (.iload_n 2, 1) := by unfold zzOp; rw [zm_137]; decide +kernel
theorem zo_137_11 : zzOp 137 11 = some (.if_icmp .le 7, 3) := by unfold zzOp; rw [zm_137]; decide +kernel
theorem zo_137_14 : zzOp 137 14 = some (.iload_n 2, 1) := by unfold zzOp; rw [zm_137]; decide +kernel
theorem zo_137_15 : zzOp 137 15 = some (.goto 4, 3) := by unfold zzOp; rw [zm_137]; decide +kernel
theorem zo_137_18 : zzOp 137 18 = some (.iload_n 0, 1) := by unfold zzOp; rw [zm_137]; decide +kernel
theorem zo_137_19 : zzOp 137 19 = some (.ireturn, 1) := by unfold zzOp; rw [zm_137]; decide +kernel
theorem zm_139 : zzM 139 = (yX7_spell, cX7_spell, 10, none, 7, 10, 1, zzc_139) := rfl
theorem zr_139 : (zzM 139).2.2.2.1 = none := by rw [zm_139]
theorem zo_139_0 : zzOp 139 0 = some (.aload_n 0, 1) := by unfold zzOp; rw [zm_139]; decide +kernel
theorem zo_139_1 : zzOp 139 1 = some (.getfield 13, 3) := by unfold zzOp; rw [zm_139]; decide +kernel
theorem zo_139_4 : zzOp 139 4 = some (.iload_n 1, 1) := by unfold zzOp; rw [zm_139]; decide +kernel
theorem zo_139_5 : zzOp 139 5 = some (.iload_n 2, 1) := by unfold zzOp; rw [zm_139]; decide +kernel
theorem zo_139_6 : zzOp 139 6 = some (.iastore, 1) := by unfold zzOp; rw [zm_139]; decide +kernel
theorem zo_139_7 : zzOp 139 7 = some (.aload_n 0, 1) := by unfold zzOp; rw [zm_139]; decide +kernel
theorem zo_139_8 : zzOp 139 8 = some (.getfield 13, 3) := by unfold zzOp; rw [zm_139]; decide +kernel
theorem zo_139_11 : zzOp 139 11 = some (.iload_n 1, 1) := by unfold zzOp; rw [zm_139]; decide +kernel
theorem zo_139_12 : zzOp 139 12 = some (.iconst 1, 1) := by unfold zzOp; rw [zm_139]; decide +kernel
theorem zo_139_13 : zzOp 139 13 = some (.iadd, 1) := by unfold zzOp; rw [zm_139]; decide +kernel
theorem zo_139_14 : zzOp 139 14 = some (.iload_n 3, 1) := by unfold zzOp; rw [zm_139]; decide +kernel
theorem zo_139_15 : zzOp 139 15 = some (.iastore, 1) := by unfold zzOp; rw [zm_139]; decide +kernel
theorem zo_139_16 : zzOp 139 16 = some (.aload_n 0, 1) := by unfold zzOp; rw [zm_139]; decide +kernel
theorem zo_139_17 : zzOp 139 17 = some (.getfield 13, 3) := by unfold zzOp; rw [zm_139]; decide +kernel
theorem zo_139_20 : zzOp 139 20 = some (.iload_n 1, 1) := by unfold zzOp; rw [zm_139]; decide +kernel
theorem zo_139_21 : zzOp 139 21 = some (.iconst 2, 1) := by unfold zzOp; rw [zm_139]; decide +kernel
theorem zo_139_22 : zzOp 139 22 = some (.iadd, 1) := by unfold zzOp; rw [zm_139]; decide +kernel
theorem zo_139_23 : zzOp 139 23 = some (.iload 4, 2) := by unfold zzOp; rw [zm_139]; decide +kernel
theorem zo_139_25 : zzOp 139 25 = some (.iastore, 1) := by unfold zzOp; rw [zm_139]; decide +kernel
theorem zo_139_26 : zzOp 139 26 = some (.aload_n 0, 1) := by unfold zzOp; rw [zm_139]; decide +kernel
theorem zo_139_27 : zzOp 139 27 = some (.getfield 13, 3) := by unfold zzOp; rw [zm_139]; decide +kernel
theorem zo_139_30 : zzOp 139 30 = some (.iload_n 1, 1) := by unfold zzOp; rw [zm_139]; decide +kernel
theorem zo_139_31 : zzOp 139 31 = some (.iconst 3, 1) := by unfold zzOp; rw [zm_139]; decide +kernel
theorem zo_139_32 : zzOp 139 32 = some (.iadd, 1) := by unfold zzOp; rw [zm_139]; decide +kernel
theorem zo_139_33 : zzOp 139 33 = some (.iload 5, 2) := by unfold zzOp; rw [zm_139]; decide +kernel
theorem zo_139_35 : zzOp 139 35 = some (.iastore, 1) := by unfold zzOp; rw [zm_139]; decide +kernel
theorem zo_139_36 : zzOp 139 36 = some (.aload_n 0, 1) := by unfold zzOp; rw [zm_139]; decide +kernel
theorem zo_139_37 : zzOp 139 37 = some (.getfield 13, 3) := by unfold zzOp; rw [zm_139]; decide +kernel
theorem zo_139_40 : zzOp 139 40 = some (.iload_n 1, 1) := by unfold zzOp; rw [zm_139]; decide +kernel
theorem zo_139_41 : zzOp 139 41 = some (.iconst 4, 1) := by unfold zzOp; rw [zm_139]; decide +kernel
theorem zo_139_42 : zzOp 139 42 = some (.iadd, 1) := by unfold zzOp; rw [zm_139]; decide +kernel
theorem zo_139_43 : zzOp 139 43 = some (.iload 6, 2) := by unfold zzOp; rw [zm_139]; decide +kernel
theorem zo_139_45 : zzOp 139 45 = some (.iastore, 1) := by unfold zzOp; rw [zm_139]; decide +kernel
theorem zo_139_46 : zzOp 139 46 = some (.aload_n 0, 1) := by unfold zzOp; rw [zm_139]; decide +kernel
theorem zo_139_47 : zzOp 139 47 = some (.getfield 13, 3) := by unfold zzOp; rw [zm_139]; decide +kernel
theorem zo_139_50 : zzOp 139 50 = some (.iload_n 1, 1) := by unfold zzOp; rw [zm_139]; decide +kernel
theorem zo_139_51 : zzOp 139 51 = some (.iconst 5, 1) := by unfold zzOp; rw [zm_139]; decide +kernel
theorem zo_139_52 : zzOp 139 52 = some (.iadd, 1) := by unfold zzOp; rw [zm_139]; decide +kernel
theorem zo_139_53 : zzOp 139 53 = some (.iload 7, 2) := by unfold zzOp; rw [zm_139]; decide +kernel
theorem zo_139_55 : zzOp 139 55 = some (.iastore, 1) := by unfold zzOp; rw [zm_139]; decide +kernel
theorem zo_139_56 : zzOp 139 56 = some (.aload_n 0, 1) := by unfold zzOp; rw [zm_139]; decide +kernel
theorem zo_139_57 : zzOp 139 57 = some (.getfield 13, 3) := by unfold zzOp; rw [zm_139]; decide +kernel
theorem zo_139_60 : zzOp 139 60 = some (.iload_n 1, 1) := by unfold zzOp; rw [zm_139]; decide +kernel
theorem zo_139_61 : zzOp 139 61 = some (.bipush 6, 2) := by unfold zzOp; rw [zm_139]; decide +kernel
theorem zo_139_63 : zzOp 139 63 = some (.iadd, 1) := by unfold zzOp; rw [zm_139]; decide +kernel
theorem zo_139_64 : zzOp 139 64 = some (.iload 8, 2) := by unfold zzOp; rw [zm_139]; decide +kernel
theorem zo_139_66 : zzOp 139 66 = some (.iastore, 1) := by unfold zzOp; rw [zm_139]; decide +kernel
theorem zo_139_67 : zzOp 139 67 = some (.aload_n 0, 1) := by unfold zzOp; rw [zm_139]; decide +kernel
theorem zo_139_68 : zzOp 139 68 = some (.getfield 13, 3) := by unfold zzOp; rw [zm_139]; decide +kernel
theorem zo_139_71 : zzOp 139 71 = some (.iload_n 1, 1) := by unfold zzOp; rw [zm_139]; decide +kernel
theorem zo_139_72 : zzOp 139 72 = some (.bipush 7, 2) := by unfold zzOp; rw [zm_139]; decide +kernel
theorem zo_139_74 : zzOp 139 74 = some (.iadd, 1) := by unfold zzOp; rw [zm_139]; decide +kernel
theorem zo_139_75 : zzOp 139 75 = some (.iload 9, 2) := by unfold zzOp; rw [zm_139]; decide +kernel
theorem zo_139_77 : zzOp 139 77 = some (.iastore, 1) := by unfold zzOp; rw [zm_139]; decide +kernel
theorem zo_139_78 : zzOp 139 78 = some (.return_, 1) := by unfold zzOp; rw [zm_139]; decide +kernel
theorem zf_139_13 : zzGet zzFL (zzM 139).2.2.2.2.1 13 = some (7, 1) := by rw [zm_139]; decide +kernel
theorem zm_140 : zzM 140 = (yX7_isOne, cX7_isOne, 2, (some .boolean), 7, 2, 1, zzc_140) := rfl
theorem zr_140 : (zzM 140).2.2.2.1 = (some .boolean) := by rw [zm_140]
theorem zo_140_0 : zzOp 140 0 = some (.iload_n 1, 1) := by unfold zzOp; rw [zm_140]; decide +kernel
theorem zo_140_1 : zzOp 140 1 = some (.i2l, 1) := by unfold zzOp; rw [zm_140]; decide +kernel
theorem zo_140_2 : zzOp 140 2 = some (.lconst 0, 1) := by unfold zzOp; rw [zm_140]; decide +kernel
theorem zo_140_3 : zzOp 140 3 = some (.aload_n 0, 1) := by unfold zzOp; rw [zm_140]; decide +kernel
theorem zo_140_4 : zzOp 140 4 = some (.getfield 85, 3) := by unfold zzOp; rw [zm_140]; decide +kernel
theorem zo_140_7 : zzOp 140 7 = some (.iconst 1, 1) := by unfold zzOp; rw [zm_140]; decide +kernel
theorem zo_140_8 : zzOp 140 8 = some (.isub, 1) := by unfold zzOp; rw [zm_140]; decide +kernel
theorem zo_140_9 : zzOp 140 9 = some (.i2l, 1) := by unfold zzOp; rw [zm_140]; decide +kernel
theorem zo_140_10 : zzOp 140 10 = some (.invokestatic 88, 3) := by unfold zzOp; rw [zm_140]; decide +kernel
theorem zo_140_13 : zzOp 140 13 = some (.ireturn, 1) := by unfold zzOp; rw [zm_140]; decide +kernel
theorem zf_140_85 : zzGet zzFL (zzM 140).2.2.2.2.1 85 = some (7, 14) := by rw [zm_140]; decide +kernel
theorem zl_140_88 : zzGet zzML (zzM 140).2.2.2.2.1 88 = some (0, 136) := by rw [zm_140]; decide +kernel
theorem zm_141 : zzM 141 = (yX7_isSeat, cX7_isSeat, 1, (some .boolean), 7, 1, 0, zzc_141) := rfl
theorem zr_141 : (zzM 141).2.2.2.1 = (some .boolean) := by rw [zm_141]
theorem zo_141_0 : zzOp 141 0 = some (.iload_n 0, 1) := by unfold zzOp; rw [zm_141]; decide +kernel
theorem zo_141_1 : zzOp 141 1 = some (.i2l, 1) := by unfold zzOp; rw [zm_141]; decide +kernel
theorem zo_141_2 : zzOp 141 2 = some (.lconst 0, 1) := by unfold zzOp; rw [zm_141]; decide +kernel
theorem zo_141_3 : zzOp 141 3 = some (.ldc2_w 92, 3) := by unfold zzOp; rw [zm_141]; decide +kernel
theorem zo_141_6 : zzOp 141 6 = some (.invokestatic 88, 3) := by unfold zzOp; rw [zm_141]; decide +kernel
theorem zo_141_9 : zzOp 141 9 = some (.ireturn, 1) := by unfold zzOp; rw [zm_141]; decide +kernel
theorem zl_141_88 : zzGet zzML (zzM 141).2.2.2.2.1 88 = some (0, 136) := by rw [zm_141]; decide +kernel
theorem zc_141_92 : zzGet zzKL (zzM 141).2.2.2.2.1 92 = some (23) := by rw [zm_141]; decide +kernel
theorem zm_142 : zzM 142 = (yX7_isValue, cX7_isValue, 4, (some .boolean), 7, 4, 1, zzc_142) := rfl
theorem zr_142 : (zzM 142).2.2.2.1 = (some .boolean) := by rw [zm_142]
theorem zo_142_0 : zzOp 142 0 = some (.iload_n 1, 1) := by unfold zzOp; rw [zm_142]; decide +kernel
theorem zo_142_1 : zzOp 142 1 = some (.iconst 3, 1) := by unfold zzOp; rw [zm_142]; decide +kernel
theorem zo_142_2 : zzOp 142 2 = some (.if_icmp .ne 27, 3) := by unfold zzOp; rw [zm_142]; decide +kernel
theorem zo_142_5 : zzOp 142 5 = some (.iload_n 3, 1) := by unfold zzOp; rw [zm_142]; decide +kernel
theorem zo_142_6 : zzOp 142 6 = some (.iconst (-1), 1) := by unfold zzOp; rw [zm_142]; decide +kernel
theorem zo_142_7 : zzOp 142 7 = some (.if_icmp .eq 16, 3) := by unfold zzOp; rw [zm_142]; decide +kernel
theorem zo_142_10 : zzOp 142 10 = some (.aload_n 0, 1) := by unfold zzOp; rw [zm_142]; decide +kernel
theorem zo_142_11 : zzOp 142 11 = some (.iload_n 3, 1) := by unfold zzOp; rw [zm_142]; decide +kernel
theorem zo_142_12 : zzOp 142 12 = some (.invokevirtual 94, 3) := by unfold zzOp; rw [zm_142]; decide +kernel
theorem zo_142_15 : zzOp 142 15 = some (.ifCond .eq 12, 3) := by unfold zzOp; rw [zm_142]; decide +kernel
theorem zo_142_18 : zzOp 142 18 = some (.iload_n 3, 1) := by unfold zzOp; rw [zm_142]; decide +kernel
theorem zo_142_19 : zzOp 142 19 = some (.iload_n 2, 1) := by unfold zzOp; rw [zm_142]; decide +kernel
theorem zo_142_20 : zzOp 142 20 = some (.if_icmp .eq 7, 3) := by unfold zzOp; rw [zm_142]; decide +kernel
theorem zo_142_23 : zzOp 142 23 = some (.iconst 1, 1) := by unfold zzOp; rw [zm_142]; decide +kernel
theorem zo_142_24 : zzOp 142 24 = some (.goto 4, 3) := by unfold zzOp; rw [zm_142]; decide +kernel
theorem zo_142_27 : zzOp 142 27 = some (.iconst 0, 1) := by unfold zzOp; rw [zm_142]; decide +kernel
theorem zo_142_28 : zzOp 142 28 = some (.ireturn, 1) := by unfold zzOp; rw [zm_142]; decide +kernel
theorem zo_142_29 : zzOp 142 29 = some (.iload_n 3, 1) := by unfold zzOp; rw [zm_142]; decide +kernel
theorem zo_142_30 : zzOp 142 30 = some (.i2l, 1) := by unfold zzOp; rw [zm_142]; decide +kernel
theorem zo_142_31 : zzOp 142 31 = some (.lconst 0, 1) := by unfold zzOp; rw [zm_142]; decide +kernel
theorem zo_142_32 : zzOp 142 32 = some (.iload_n 1, 1) := by unfold zzOp; rw [zm_142]; decide +kernel
theorem zo_142_33 : zzOp 142 33 = some (.ifCond .ne 9, 3) := by unfold zzOp; rw [zm_142]; decide +kernel
theorem zo_142_36 : zzOp 142 36 = some (.ldc2_w 98, 3) := by unfold zzOp; rw [zm_142]; decide +kernel
theorem zo_142_39 : zzOp 142 39 = some (.goto 17, 3) := by unfold zzOp; rw [zm_142]; decide +kernel
theorem zo_142_42 : zzOp 142 42 = some (.iload_n 1, 1) := by unfold zzOp; rw [zm_142]; decide +kernel
theorem zo_142_43 : zzOp 142 43 = some (.iconst 1, 1) := by unfold zzOp; rw [zm_142]; decide +kernel
theorem zo_142_44 : zzOp 142 44 = some (.if_icmp .ne 9, 3) := by unfold zzOp; rw [zm_142]; decide +kernel
theorem zo_142_47 : zzOp 142 47 = some (.ldc2_w 100, 3) := by unfold zzOp; rw [zm_142]; decide +kernel
theorem zo_142_50 : zzOp 142 50 = some (.goto 6, 3) := by unfold zzOp; rw [zm_142]; decide +kernel
theorem zo_142_53 : zzOp 142 53 = some (.ldc2_w 102, 3) := by unfold zzOp; rw [zm_142]; decide +kernel
theorem zo_142_56 : zzOp 142 56 = some (.invokestatic 88, 3) := by unfold zzOp; rw [zm_142]; decide +kernel
theorem zo_142_59 : zzOp 142 59 = some (.ireturn, 1) := by unfold zzOp; rw [zm_142]; decide +kernel
theorem zl_142_88 : zzGet zzML (zzM 142).2.2.2.2.1 88 = some (0, 136) := by rw [zm_142]; decide +kernel
theorem zl_142_94 : zzGet zzML (zzM 142).2.2.2.2.1 94 = some (2, 140) := by rw [zm_142]; decide +kernel
theorem zc_142_98 : zzGet zzKL (zzM 142).2.2.2.2.1 98 = some (99) := by rw [zm_142]; decide +kernel
theorem zc_142_100 : zzGet zzKL (zzM 142).2.2.2.2.1 100 = some (999) := by rw [zm_142]; decide +kernel
theorem zc_142_102 : zzGet zzKL (zzM 142).2.2.2.2.1 102 = some (9) := by rw [zm_142]; decide +kernel
theorem zm_143 : zzM 143 = (yX7_set, cX7_set, 5, (some .int), 7, 4, 1, zzc_143) := rfl
theorem zr_143 : (zzM 143).2.2.2.1 = (some .int) := by rw [zm_143]
theorem zo_143_0 : zzOp 143 0 = some (.iload_n 1, 1) := by unfold zzOp; rw [zm_143]; decide +kernel
theorem zo_143_1 : zzOp 143 1 = some (.i2l, 1) := by unfold zzOp; rw [zm_143]; decide +kernel
theorem zo_143_2 : zzOp 143 2 = some (.lconst 0, 1) := by unfold zzOp; rw [zm_143]; decide +kernel
theorem zo_143_3 : zzOp 143 3 = some (.ldc2_w 104, 3) := by unfold zzOp; rw [zm_143]; decide +kernel
theorem zo_143_6 : zzOp 143 6 = some (.invokestatic 88, 3) := by unfold zzOp; rw [zm_143]; decide +kernel
theorem zo_143_9 : zzOp 143 9 = some (.ifCond .eq 26, 3) := by unfold zzOp; rw [zm_143]; decide +kernel
theorem zo_143_12 : zzOp 143 12 = some (.iload_n 1, 1) := by unfold zzOp; rw [zm_143]; decide +kernel
theorem zo_143_13 : zzOp 143 13 = some (.iconst 1, 1) := by unfold zzOp; rw [zm_143]; decide +kernel
theorem zo_143_14 : zzOp 143 14 = some (.if_icmp .le 11, 3) := by unfold zzOp; rw [zm_143]; decide +kernel
theorem zo_143_17 : zzOp 143 17 = some (.aload_n 0, 1) := by unfold zzOp; rw [zm_143]; decide +kernel
theorem zo_143_18 : zzOp 143 18 = some (.iload_n 2, 1) := by unfold zzOp; rw [zm_143]; decide +kernel
theorem zo_143_19 : zzOp 143 19 = some (.invokevirtual 94, 3) := by unfold zzOp; rw [zm_143]; decide +kernel
theorem zo_143_22 : zzOp 143 22 = some (.ifCond .eq 13, 3) := by unfold zzOp; rw [zm_143]; decide +kernel
theorem zo_143_25 : zzOp 143 25 = some (.aload_n 0, 1) := by unfold zzOp; rw [zm_143]; decide +kernel
theorem zo_143_26 : zzOp 143 26 = some (.iload_n 1, 1) := by unfold zzOp; rw [zm_143]; decide +kernel
theorem zo_143_27 : zzOp 143 27 = some (.iload_n 2, 1) := by unfold zzOp; rw [zm_143]; decide +kernel
theorem zo_143_28 : zzOp 143 28 = some (.iload_n 3, 1) := by unfold zzOp; rw [zm_143]; decide +kernel
theorem zo_143_29 : zzOp 143 29 = some (.invokevirtual 106, 3) := by unfold zzOp; rw [zm_143]; decide +kernel
theorem zo_143_32 : zzOp 143 32 = some (.ifCond .ne 6, 3) := by unfold zzOp; rw [zm_143]; decide +kernel
theorem zo_143_35 : zzOp 143 35 = some (.bipush (-2), 2) := by unfold zzOp; rw [zm_143]; decide +kernel
theorem zo_143_37 : zzOp 143 37 = some (.ireturn, 1) := by unfold zzOp; rw [zm_143]; decide +kernel
theorem zo_143_38 : zzOp 143 38 = some (.aload_n 0, 1) := by unfold zzOp; rw [zm_143]; decide +kernel
theorem zo_143_39 : zzOp 143 39 = some (.iload_n 2, 1) := by unfold zzOp; rw [zm_143]; decide +kernel
theorem zo_143_40 : zzOp 143 40 = some (.iload_n 1, 1) := by unfold zzOp; rw [zm_143]; decide +kernel
theorem zo_143_41 : zzOp 143 41 = some (.invokevirtual 110, 3) := by unfold zzOp; rw [zm_143]; decide +kernel
theorem zo_143_44 : zzOp 143 44 = some (.istore 4, 2) := by unfold zzOp; rw [zm_143]; decide +kernel
theorem zo_143_46 : zzOp 143 46 = some (.aload_n 0, 1) := by unfold zzOp; rw [zm_143]; decide +kernel
theorem zo_143_47 : zzOp 143 47 = some (.iload_n 1, 1) := by unfold zzOp; rw [zm_143]; decide +kernel
theorem zo_143_48 : zzOp 143 48 = some (.iload_n 2, 1) := by unfold zzOp; rw [zm_143]; decide +kernel
theorem zo_143_49 : zzOp 143 49 = some (.iload_n 3, 1) := by unfold zzOp; rw [zm_143]; decide +kernel
theorem zo_143_50 : zzOp 143 50 = some (.invokevirtual 114, 3) := by unfold zzOp; rw [zm_143]; decide +kernel
theorem zo_143_53 : zzOp 143 53 = some (.iload 4, 2) := by unfold zzOp; rw [zm_143]; decide +kernel
theorem zo_143_55 : zzOp 143 55 = some (.ireturn, 1) := by unfold zzOp; rw [zm_143]; decide +kernel
theorem zl_143_88 : zzGet zzML (zzM 143).2.2.2.2.1 88 = some (0, 136) := by rw [zm_143]; decide +kernel
theorem zl_143_94 : zzGet zzML (zzM 143).2.2.2.2.1 94 = some (2, 140) := by rw [zm_143]; decide +kernel
theorem zl_143_106 : zzGet zzML (zzM 143).2.2.2.2.1 106 = some (2, 142) := by rw [zm_143]; decide +kernel
theorem zl_143_110 : zzGet zzML (zzM 143).2.2.2.2.1 110 = some (2, 148) := by rw [zm_143]; decide +kernel
theorem zl_143_114 : zzGet zzML (zzM 143).2.2.2.2.1 114 = some (2, 144) := by rw [zm_143]; decide +kernel
theorem zc_143_104 : zzGet zzKL (zzM 143).2.2.2.2.1 104 = some (3) := by rw [zm_143]; decide +kernel
theorem zm_144 : zzM 144 = (yX7_lays, cX7_lays, 4, none, 7, 4, 1, zzc_144) := rfl
theorem zr_144 : (zzM 144).2.2.2.1 = none := by rw [zm_144]
theorem zo_144_0 : zzOp 144 0 = some (.iload_n 1, 1) := by unfold zzOp; rw [zm_144]; decide +kernel
theorem zo_144_1 : zzOp 144 1 = some (.ifCond .ne 11, 3) := by unfold zzOp; rw [zm_144]; decide +kernel
theorem zo_144_4 : zzOp 144 4 = some (.aload_n 0, 1) := by unfold zzOp; rw [zm_144]; decide +kernel
theorem zo_144_5 : zzOp 144 5 = some (.iload_n 3, 1) := by unfold zzOp; rw [zm_144]; decide +kernel
theorem zo_144_6 : zzOp 144 6 = some (.putfield 118, 3) := by unfold zzOp; rw [zm_144]; decide +kernel
theorem zo_144_9 : zzOp 144 9 = some (.goto 66, 3) := by unfold zzOp; rw [zm_144]; decide +kernel
theorem zo_144_12 : zzOp 144 12 = some (.iload_n 1, 1) := by unfold zzOp; rw [zm_144]; decide +kernel
theorem zo_144_13 : zzOp 144 13 = some (.iconst 1, 1) := by unfold zzOp; rw [zm_144]; decide +kernel
theorem zo_144_14 : zzOp 144 14 = some (.if_icmp .ne 11, 3) := by unfold zzOp; rw [zm_144]; decide +kernel
theorem zo_144_17 : zzOp 144 17 = some (.aload_n 0, 1) := by unfold zzOp; rw [zm_144]; decide +kernel
theorem zo_144_18 : zzOp 144 18 = some (.iload_n 3, 1) := by unfold zzOp; rw [zm_144]; decide +kernel
theorem zo_144_19 : zzOp 144 19 = some (.putfield 23, 3) := by unfold zzOp; rw [zm_144]; decide +kernel
theorem zo_144_22 : zzOp 144 22 = some (.goto 53, 3) := by unfold zzOp; rw [zm_144]; decide +kernel
theorem zo_144_25 : zzOp 144 25 = some (.iload_n 1, 1) := by unfold zzOp; rw [zm_144]; decide +kernel
theorem zo_144_26 : zzOp 144 26 = some (.iconst 2, 1) := by unfold zzOp; rw [zm_144]; decide +kernel
theorem zo_144_27 : zzOp 144 27 = some (.if_icmp .ne 13, 3) := by unfold zzOp; rw [zm_144]; decide +kernel
theorem zo_144_30 : zzOp 144 30 = some (.aload_n 0, 1) := by unfold zzOp; rw [zm_144]; decide +kernel
theorem zo_144_31 : zzOp 144 31 = some (.getfield 29, 3) := by unfold zzOp; rw [zm_144]; decide +kernel
theorem zo_144_34 : zzOp 144 34 = some (.iload_n 2, 1) := by unfold zzOp; rw [zm_144]; decide +kernel
theorem zo_144_35 : zzOp 144 35 = some (.iload_n 3, 1) := by unfold zzOp; rw [zm_144]; decide +kernel
theorem zo_144_36 : zzOp 144 36 = some (.iastore, 1) := by unfold zzOp; rw [zm_144]; decide +kernel
theorem zo_144_37 : zzOp 144 37 = some (.goto 38, 3) := by unfold zzOp; rw [zm_144]; decide +kernel
theorem zo_144_40 : zzOp 144 40 = some (.iload_n 1, 1) := by unfold zzOp; rw [zm_144]; decide +kernel
theorem zo_144_41 : zzOp 144 41 = some (.iconst 3, 1) := by unfold zzOp; rw [zm_144]; decide +kernel
theorem zo_144_42 : zzOp 144 42 = some (.if_icmp .ne 13, 3) := by unfold zzOp; rw [zm_144]; decide +kernel
theorem zo_144_45 : zzOp 144 45 = some (.aload_n 0, 1) := by unfold zzOp; rw [zm_144]; decide +kernel
theorem zo_144_46 : zzOp 144 46 = some (.getfield 32, 3) := by unfold zzOp; rw [zm_144]; decide +kernel
theorem zo_144_49 : zzOp 144 49 = some (.iload_n 2, 1) := by unfold zzOp; rw [zm_144]; decide +kernel
theorem zo_144_50 : zzOp 144 50 = some (.iload_n 3, 1) := by unfold zzOp; rw [zm_144]; decide +kernel
theorem zo_144_51 : zzOp 144 51 = some (.iastore, 1) := by unfold zzOp; rw [zm_144]; decide +kernel
theorem zo_144_52 : zzOp 144 52 = some (.goto 23, 3) := by unfold zzOp; rw [zm_144]; decide +kernel
theorem zo_144_55 : zzOp 144 55 = some (.iload_n 1, 1) := by unfold zzOp; rw [zm_144]; decide +kernel
theorem zo_144_56 : zzOp 144 56 = some (.iconst 4, 1) := by unfold zzOp; rw [zm_144]; decide +kernel
theorem zo_144_57 : zzOp 144 57 = some (.if_icmp .ne 13, 3) := by unfold zzOp; rw [zm_144]; decide +kernel
theorem zo_144_60 : zzOp 144 60 = some (.aload_n 0, 1) := by unfold zzOp; rw [zm_144]; decide +kernel
theorem zo_144_61 : zzOp 144 61 = some (.getfield 26, 3) := by unfold zzOp; rw [zm_144]; decide +kernel
theorem zo_144_64 : zzOp 144 64 = some (.iload_n 2, 1) := by unfold zzOp; rw [zm_144]; decide +kernel
theorem zo_144_65 : zzOp 144 65 = some (.iload_n 3, 1) := by unfold zzOp; rw [zm_144]; decide +kernel
theorem zo_144_66 : zzOp 144 66 = some (.iastore, 1) := by unfold zzOp; rw [zm_144]; decide +kernel
theorem zo_144_67 : zzOp 144 67 = some (.goto 8, 3) := by unfold zzOp; rw [zm_144]; decide +kernel
theorem zo_144_70 : zzOp 144 70 = some (.aload_n 0, 1) := by unfold zzOp; rw [zm_144]; decide +kernel
theorem zo_144_71 : zzOp 144 71 = some (.iload_n 3, 1) := by unfold zzOp; rw [zm_144]; decide +kernel
theorem zo_144_72 : zzOp 144 72 = some (.putfield 121, 3) := by unfold zzOp; rw [zm_144]; decide +kernel
theorem zo_144_75 : zzOp 144 75 = some (.return_, 1) := by unfold zzOp; rw [zm_144]; decide +kernel
theorem zf_144_23 : zzGet zzFL (zzM 144).2.2.2.2.1 23 = some (7, 8) := by rw [zm_144]; decide +kernel
theorem zf_144_26 : zzGet zzFL (zzM 144).2.2.2.2.1 26 = some (7, 9) := by rw [zm_144]; decide +kernel
theorem zf_144_29 : zzGet zzFL (zzM 144).2.2.2.2.1 29 = some (7, 10) := by rw [zm_144]; decide +kernel
theorem zf_144_32 : zzGet zzFL (zzM 144).2.2.2.2.1 32 = some (7, 11) := by rw [zm_144]; decide +kernel
theorem zf_144_118 : zzGet zzFL (zzM 144).2.2.2.2.1 118 = some (7, 7) := by rw [zm_144]; decide +kernel
theorem zf_144_121 : zzGet zzFL (zzM 144).2.2.2.2.1 121 = some (7, 4) := by rw [zm_144]; decide +kernel
theorem zm_145 : zzM 145 = (yX7_passenger, cX7_passenger, 3, (some .int), 7, 3, 1, zzc_145) := rfl
theorem zr_145 : (zzM 145).2.2.2.1 = (some .int) := by rw [zm_145]
theorem zo_145_0 : zzOp 145 0 = some (.iload_n 1, 1) := by unfold zzOp; rw [zm_145]; decide +kernel
theorem zo_145_1 : zzOp 145 1 = some (.i2l, 1) := by unfold zzOp; rw [zm_145]; decide +kernel
theorem zo_145_2 : zzOp 145 2 = some (.lconst 0, 1) := by unfold zzOp; rw [zm_145]; decide +kernel
theorem zo_145_3 : zzOp 145 3 = some (.ldc2_w 124, 3) := by unfold zzOp; rw [zm_145]; decide +kernel
theorem zo_145_6 : zzOp 145 6 = some (.invokestatic 88, 3) := by unfold zzOp; rw [zm_145]; decide +kernel
theorem zo_145_9 : zzOp 145 9 = some (.ifCond .eq 15, 3) := by unfold zzOp; rw [zm_145]; decide +kernel
theorem zo_145_12 : zzOp 145 12 = some (.iload_n 2, 1) := by unfold zzOp; rw [zm_145]; decide +kernel
theorem zo_145_13 : zzOp 145 13 = some (.i2l, 1) := by unfold zzOp; rw [zm_145]; decide +kernel
theorem zo_145_14 : zzOp 145 14 = some (.lconst 0, 1) := by unfold zzOp; rw [zm_145]; decide +kernel
theorem zo_145_15 : zzOp 145 15 = some (.ldc2_w 102, 3) := by unfold zzOp; rw [zm_145]; decide +kernel
theorem zo_145_18 : zzOp 145 18 = some (.invokestatic 88, 3) := by unfold zzOp; rw [zm_145]; decide +kernel
theorem zo_145_21 : zzOp 145 21 = some (.ifCond .ne 6, 3) := by unfold zzOp; rw [zm_145]; decide +kernel
theorem zo_145_24 : zzOp 145 24 = some (.bipush (-2), 2) := by unfold zzOp; rw [zm_145]; decide +kernel
theorem zo_145_26 : zzOp 145 26 = some (.ireturn, 1) := by unfold zzOp; rw [zm_145]; decide +kernel
theorem zo_145_27 : zzOp 145 27 = some (.aload_n 0, 1) := by unfold zzOp; rw [zm_145]; decide +kernel
theorem zo_145_28 : zzOp 145 28 = some (.getfield 85, 3) := by unfold zzOp; rw [zm_145]; decide +kernel
theorem zo_145_31 : zzOp 145 31 = some (.bipush 8, 2) := by unfold zzOp; rw [zm_145]; decide +kernel
theorem zo_145_33 : zzOp 145 33 = some (.if_icmp .ne 6, 3) := by unfold zzOp; rw [zm_145]; decide +kernel
theorem zo_145_36 : zzOp 145 36 = some (.bipush (-4), 2) := by unfold zzOp; rw [zm_145]; decide +kernel
theorem zo_145_38 : zzOp 145 38 = some (.ireturn, 1) := by unfold zzOp; rw [zm_145]; decide +kernel
theorem zo_145_39 : zzOp 145 39 = some (.aload_n 0, 1) := by unfold zzOp; rw [zm_145]; decide +kernel
theorem zo_145_40 : zzOp 145 40 = some (.getfield 26, 3) := by unfold zzOp; rw [zm_145]; decide +kernel
theorem zo_145_43 : zzOp 145 43 = some (.aload_n 0, 1) := by unfold zzOp; rw [zm_145]; decide +kernel
theorem zo_145_44 : zzOp 145 44 = some (.getfield 85, 3) := by unfold zzOp; rw [zm_145]; decide +kernel
theorem zo_145_47 : zzOp 145 47 = some (.iload_n 1, 1) := by unfold zzOp; rw [zm_145]; decide +kernel
theorem zo_145_48 : zzOp 145 48 = some (.iastore, 1) := by unfold zzOp; rw [zm_145]; decide +kernel
theorem zo_145_49 : zzOp 145 49 = some (.aload_n 0, 1) := by unfold zzOp; rw [zm_145]; decide +kernel
theorem zo_145_50 : zzOp 145 50 = some (.getfield 29, 3) := by unfold zzOp; rw [zm_145]; decide +kernel
theorem zo_145_53 : zzOp 145 53 = some (.aload_n 0, 1) := by unfold zzOp; rw [zm_145]; decide +kernel
theorem zo_145_54 : zzOp 145 54 = some (.getfield 85, 3) := by unfold zzOp; rw [zm_145]; decide +kernel
theorem zo_145_57 : zzOp 145 57 = some (.iload_n 2, 1) := by unfold zzOp; rw [zm_145]; decide +kernel
theorem zo_145_58 : zzOp 145 58 = some (.iastore, 1) := by unfold zzOp; rw [zm_145]; decide +kernel
theorem zo_145_59 : zzOp 145 59 = some (.aload_n 0, 1) := by unfold zzOp; rw [zm_145]; decide +kernel
theorem zo_145_60 : zzOp 145 60 = some (.getfield 32, 3) := by unfold zzOp; rw [zm_145]; decide +kernel
theorem zo_145_63 : zzOp 145 63 = some (.aload_n 0, 1) := by unfold zzOp; rw [zm_145]; decide +kernel
theorem zo_145_64 : zzOp 145 64 = some (.getfield 85, 3) := by unfold zzOp; rw [zm_145]; decide +kernel
theorem zo_145_67 : zzOp 145 67 = some (.iconst (-1), 1) := by unfold zzOp; rw [zm_145]; decide +kernel
theorem zo_145_68 : zzOp 145 68 = some (.iastore, 1) := by unfold zzOp; rw [zm_145]; decide +kernel
theorem zo_145_69 : zzOp 145 69 = some (.aload_n 0, 1) := by unfold zzOp; rw [zm_145]; decide +kernel
theorem zo_145_70 : zzOp 145 70 = some (.getfield 35, 3) := by unfold zzOp; rw [zm_145]; decide +kernel
theorem zo_145_73 : zzOp 145 73 = some (.aload_n 0, 1) := by unfold zzOp; rw [zm_145]; decide +kernel
theorem zo_145_74 : zzOp 145 74 = some (.getfield 85, 3) := by unfold zzOp; rw [zm_145]; decide +kernel
theorem zo_145_77 : zzOp 145 77 = some (.iconst (-1), 1) := by unfold zzOp; rw [zm_145]; decide +kernel
theorem zo_145_78 : zzOp 145 78 = some (.iastore, 1) := by unfold zzOp; rw [zm_145]; decide +kernel
theorem zo_145_79 : zzOp 145 79 = some (.aload_n 0, 1) := by unfold zzOp; rw [zm_145]; decide +kernel
theorem zo_145_80 : zzOp 145 80 = some (.dup, 1) := by unfold zzOp; rw [zm_145]; decide +kernel
theorem zo_145_81 : zzOp 145 81 = some (.getfield 85, 3) := by unfold zzOp; rw [zm_145]; decide +kernel
theorem zo_145_84 : zzOp 145 84 = some (.iconst 1, 1) := by unfold zzOp; rw [zm_145]; decide +kernel
theorem zo_145_85 : zzOp 145 85 = some (.iadd, 1) := by unfold zzOp; rw [zm_145]; decide +kernel
theorem zo_145_86 : zzOp 145 86 = some (.putfield 85, 3) := by unfold zzOp; rw [zm_145]; decide +kernel
theorem zo_145_89 : zzOp 145 89 = some (.aload_n 0, 1) := by unfold zzOp; rw [zm_145]; decide +kernel
theorem zo_145_90 : zzOp 145 90 = some (.getfield 85, 3) := by unfold zzOp; rw [zm_145]; decide +kernel
theorem zo_145_93 : zzOp 145 93 = some (.iconst 1, 1) := by unfold zzOp; rw [zm_145]; decide +kernel
theorem zo_145_94 : zzOp 145 94 = some (.isub, 1) := by unfold zzOp; rw [zm_145]; decide +kernel
theorem zo_145_95 : zzOp 145 95 = some (.ireturn, 1) := by unfold zzOp; rw [zm_145]; decide +kernel
theorem zf_145_26 : zzGet zzFL (zzM 145).2.2.2.2.1 26 = some (7, 9) := by rw [zm_145]; decide +kernel
theorem zf_145_29 : zzGet zzFL (zzM 145).2.2.2.2.1 29 = some (7, 10) := by rw [zm_145]; decide +kernel
theorem zf_145_32 : zzGet zzFL (zzM 145).2.2.2.2.1 32 = some (7, 11) := by rw [zm_145]; decide +kernel
theorem zf_145_35 : zzGet zzFL (zzM 145).2.2.2.2.1 35 = some (7, 12) := by rw [zm_145]; decide +kernel
theorem zf_145_85 : zzGet zzFL (zzM 145).2.2.2.2.1 85 = some (7, 14) := by rw [zm_145]; decide +kernel
theorem zl_145_88 : zzGet zzML (zzM 145).2.2.2.2.1 88 = some (0, 136) := by rw [zm_145]; decide +kernel
theorem zc_145_102 : zzGet zzKL (zzM 145).2.2.2.2.1 102 = some (9) := by rw [zm_145]; decide +kernel
theorem zc_145_124 : zzGet zzKL (zzM 145).2.2.2.2.1 124 = some (5) := by rw [zm_145]; decide +kernel
theorem zm_146 : zzM 146 = (yX7_seats, cX7_seats, 3, none, 7, 3, 1, zzc_146) := rfl
theorem zr_146 : (zzM 146).2.2.2.1 = none := by rw [zm_146]
theorem zo_146_0 : zzOp 146 0 = some (.aload_n 0, 1) := by unfold zzOp; rw [zm_146]; decide +kernel
theorem zo_146_1 : zzOp 146 1 = some (.getfield 35, 3) := by unfold zzOp; rw [zm_146]; decide +kernel
theorem zo_146_4 : zzOp 146 4 = some (.iload_n 1, 1) := by unfold zzOp; rw [zm_146]; decide +kernel
theorem zo_146_5 : zzOp 146 5 = some (.iaload, 1) := by unfold zzOp; rw [zm_146]; decide +kernel
theorem zo_146_6 : zzOp 146 6 = some (.iconst (-1), 1) := by unfold zzOp; rw [zm_146]; decide +kernel
theorem zo_146_7 : zzOp 146 7 = some (.if_icmp .eq 15, 3) := by unfold zzOp; rw [zm_146]; decide +kernel
theorem zo_146_10 : zzOp 146 10 = some (.aload_n 0, 1) := by unfold zzOp; rw [zm_146]; decide +kernel
theorem zo_146_11 : zzOp 146 11 = some (.getfield 38, 3) := by unfold zzOp; rw [zm_146]; decide +kernel
theorem zo_146_14 : zzOp 146 14 = some (.aload_n 0, 1) := by unfold zzOp; rw [zm_146]; decide +kernel
theorem zo_146_15 : zzOp 146 15 = some (.getfield 35, 3) := by unfold zzOp; rw [zm_146]; decide +kernel
theorem zo_146_18 : zzOp 146 18 = some (.iload_n 1, 1) := by unfold zzOp; rw [zm_146]; decide +kernel
theorem zo_146_19 : zzOp 146 19 = some (.iaload, 1) := by unfold zzOp; rw [zm_146]; decide +kernel
theorem zo_146_20 : zzOp 146 20 = some (.iconst (-1), 1) := by unfold zzOp; rw [zm_146]; decide +kernel
theorem zo_146_21 : zzOp 146 21 = some (.iastore, 1) := by unfold zzOp; rw [zm_146]; decide +kernel
theorem zo_146_22 : zzOp 146 22 = some (.aload_n 0, 1) := by unfold zzOp; rw [zm_146]; decide +kernel
theorem zo_146_23 : zzOp 146 23 = some (.getfield 35, 3) := by unfold zzOp; rw [zm_146]; decide +kernel
theorem zo_146_26 : zzOp 146 26 = some (.iload_n 1, 1) := by unfold zzOp; rw [zm_146]; decide +kernel
theorem zo_146_27 : zzOp 146 27 = some (.iload_n 2, 1) := by unfold zzOp; rw [zm_146]; decide +kernel
theorem zo_146_28 : zzOp 146 28 = some (.iastore, 1) := by unfold zzOp; rw [zm_146]; decide +kernel
theorem zo_146_29 : zzOp 146 29 = some (.iload_n 2, 1) := by unfold zzOp; rw [zm_146]; decide +kernel
theorem zo_146_30 : zzOp 146 30 = some (.iconst (-1), 1) := by unfold zzOp; rw [zm_146]; decide +kernel
theorem zo_146_31 : zzOp 146 31 = some (.if_icmp .eq 10, 3) := by unfold zzOp; rw [zm_146]; decide +kernel
theorem zo_146_34 : zzOp 146 34 = some (.aload_n 0, 1) := by unfold zzOp; rw [zm_146]; decide +kernel
theorem zo_146_35 : zzOp 146 35 = some (.getfield 38, 3) := by unfold zzOp; rw [zm_146]; decide +kernel
theorem zo_146_38 : zzOp 146 38 = some (.iload_n 2, 1) := by unfold zzOp; rw [zm_146]; decide +kernel
theorem zo_146_39 : zzOp 146 39 = some (.iload_n 1, 1) := by unfold zzOp; rw [zm_146]; decide +kernel
theorem zo_146_40 : zzOp 146 40 = some (.iastore, 1) := by unfold zzOp; rw [zm_146]; decide +kernel
theorem zo_146_41 : zzOp 146 41 = some (.return_, 1) := by unfold zzOp; rw [zm_146]; decide +kernel
theorem zf_146_35 : zzGet zzFL (zzM 146).2.2.2.2.1 35 = some (7, 12) := by rw [zm_146]; decide +kernel
theorem zf_146_38 : zzGet zzFL (zzM 146).2.2.2.2.1 38 = some (7, 13) := by rw [zm_146]; decide +kernel
theorem zm_147 : zzM 147 = (yX7_sit, cX7_sit, 4, (some .int), 7, 3, 1, zzc_147) := rfl
theorem zr_147 : (zzM 147).2.2.2.1 = (some .int) := by rw [zm_147]
theorem zo_147_0 : zzOp 147 0 = some (.aload_n 0, 1) := by unfold zzOp; rw [zm_147]; decide +kernel
theorem zo_147_1 : zzOp 147 1 = some (.iload_n 1, 1) := by unfold zzOp; rw [zm_147]; decide +kernel
theorem zo_147_2 : zzOp 147 2 = some (.invokevirtual 94, 3) := by unfold zzOp; rw [zm_147]; decide +kernel
theorem zo_147_5 : zzOp 147 5 = some (.ifCond .eq 15, 3) := by unfold zzOp; rw [zm_147]; decide +kernel
theorem zo_147_8 : zzOp 147 8 = some (.iload_n 2, 1) := by unfold zzOp; rw [zm_147]; decide +kernel
theorem zo_147_9 : zzOp 147 9 = some (.iconst (-1), 1) := by unfold zzOp; rw [zm_147]; decide +kernel
theorem zo_147_10 : zzOp 147 10 = some (.if_icmp .eq 13, 3) := by unfold zzOp; rw [zm_147]; decide +kernel
theorem zo_147_13 : zzOp 147 13 = some (.iload_n 2, 1) := by unfold zzOp; rw [zm_147]; decide +kernel
theorem zo_147_14 : zzOp 147 14 = some (.invokestatic 126, 3) := by unfold zzOp; rw [zm_147]; decide +kernel
theorem zo_147_17 : zzOp 147 17 = some (.ifCond .ne 6, 3) := by unfold zzOp; rw [zm_147]; decide +kernel
theorem zo_147_20 : zzOp 147 20 = some (.bipush (-2), 2) := by unfold zzOp; rw [zm_147]; decide +kernel
theorem zo_147_22 : zzOp 147 22 = some (.ireturn, 1) := by unfold zzOp; rw [zm_147]; decide +kernel
theorem zo_147_23 : zzOp 147 23 = some (.iload_n 2, 1) := by unfold zzOp; rw [zm_147]; decide +kernel
theorem zo_147_24 : zzOp 147 24 = some (.iconst (-1), 1) := by unfold zzOp; rw [zm_147]; decide +kernel
theorem zo_147_25 : zzOp 147 25 = some (.if_icmp .eq 26, 3) := by unfold zzOp; rw [zm_147]; decide +kernel
theorem zo_147_28 : zzOp 147 28 = some (.aload_n 0, 1) := by unfold zzOp; rw [zm_147]; decide +kernel
theorem zo_147_29 : zzOp 147 29 = some (.getfield 38, 3) := by unfold zzOp; rw [zm_147]; decide +kernel
theorem zo_147_32 : zzOp 147 32 = some (.iload_n 2, 1) := by unfold zzOp; rw [zm_147]; decide +kernel
theorem zo_147_33 : zzOp 147 33 = some (.iaload, 1) := by unfold zzOp; rw [zm_147]; decide +kernel
theorem zo_147_34 : zzOp 147 34 = some (.iconst (-1), 1) := by unfold zzOp; rw [zm_147]; decide +kernel
theorem zo_147_35 : zzOp 147 35 = some (.if_icmp .eq 16, 3) := by unfold zzOp; rw [zm_147]; decide +kernel
theorem zo_147_38 : zzOp 147 38 = some (.aload_n 0, 1) := by unfold zzOp; rw [zm_147]; decide +kernel
theorem zo_147_39 : zzOp 147 39 = some (.getfield 38, 3) := by unfold zzOp; rw [zm_147]; decide +kernel
theorem zo_147_42 : zzOp 147 42 = some (.iload_n 2, 1) := by unfold zzOp; rw [zm_147]; decide +kernel
theorem zo_147_43 : zzOp 147 43 = some (.iaload, 1) := by unfold zzOp; rw [zm_147]; decide +kernel
theorem zo_147_44 : zzOp 147 44 = some (.iload_n 1, 1) := by unfold zzOp; rw [zm_147]; decide +kernel
theorem zo_147_45 : zzOp 147 45 = some (.if_icmp .eq 6, 3) := by unfold zzOp; rw [zm_147]; decide +kernel
theorem zo_147_48 : zzOp 147 48 = some (.bipush (-3), 2) := by unfold zzOp; rw [zm_147]; decide +kernel
theorem zo_147_50 : zzOp 147 50 = some (.ireturn, 1) := by unfold zzOp; rw [zm_147]; decide +kernel
theorem zo_147_51 : zzOp 147 51 = some (.aload_n 0, 1) := by unfold zzOp; rw [zm_147]; decide +kernel
theorem zo_147_52 : zzOp 147 52 = some (.getfield 35, 3) := by unfold zzOp; rw [zm_147]; decide +kernel
theorem zo_147_55 : zzOp 147 55 = some (.iload_n 1, 1) := by unfold zzOp; rw [zm_147]; decide +kernel
theorem zo_147_56 : zzOp 147 56 = some (.iaload, 1) := by unfold zzOp; rw [zm_147]; decide +kernel
theorem zo_147_57 : zzOp 147 57 = some (.istore_n 3, 1) := by unfold zzOp; rw [zm_147]; decide +kernel
theorem zo_147_58 : zzOp 147 58 = some (.aload_n 0, 1) := by unfold zzOp; rw [zm_147]; decide +kernel
theorem zo_147_59 : zzOp 147 59 = some (.iload_n 1, 1) := by unfold zzOp; rw [zm_147]; decide +kernel
theorem zo_147_60 : zzOp 147 60 = some (.iload_n 2, 1) := by unfold zzOp; rw [zm_147]; decide +kernel
theorem zo_147_61 : zzOp 147 61 = some (.invokevirtual 129, 3) := by unfold zzOp; rw [zm_147]; decide +kernel
theorem zo_147_64 : zzOp 147 64 = some (.iload_n 3, 1) := by unfold zzOp; rw [zm_147]; decide +kernel
theorem zo_147_65 : zzOp 147 65 = some (.ireturn, 1) := by unfold zzOp; rw [zm_147]; decide +kernel
theorem zf_147_35 : zzGet zzFL (zzM 147).2.2.2.2.1 35 = some (7, 12) := by rw [zm_147]; decide +kernel
theorem zf_147_38 : zzGet zzFL (zzM 147).2.2.2.2.1 38 = some (7, 13) := by rw [zm_147]; decide +kernel
theorem zl_147_94 : zzGet zzML (zzM 147).2.2.2.2.1 94 = some (2, 140) := by rw [zm_147]; decide +kernel
theorem zl_147_126 : zzGet zzML (zzM 147).2.2.2.2.1 126 = some (0, 141) := by rw [zm_147]; decide +kernel
theorem zl_147_129 : zzGet zzML (zzM 147).2.2.2.2.1 129 = some (2, 146) := by rw [zm_147]; decide +kernel
theorem zm_148 : zzM 148 = (yX7_told, cX7_told, 3, (some .int), 7, 3, 1, zzc_148) := rfl
theorem zr_148 : (zzM 148).2.2.2.1 = (some .int) := by rw [zm_148]
theorem zo_148_0 : zzOp 148 0 = some (.iload_n 2, 1) := by unfold zzOp; rw [zm_148]; decide +kernel
theorem zo_148_1 : zzOp 148 1 = some (.i2l, 1) := by unfold zzOp; rw [zm_148]; decide +kernel
theorem zo_148_2 : zzOp 148 2 = some (.lconst 0, 1) := by unfold zzOp; rw [zm_148]; decide +kernel
theorem zo_148_3 : zzOp 148 3 = some (.ldc2_w 102, 3) := by unfold zzOp; rw [zm_148]; decide +kernel
theorem zo_148_6 : zzOp 148 6 = some (.invokestatic 88, 3) := by unfold zzOp; rw [zm_148]; decide +kernel
theorem zo_148_9 : zzOp 148 9 = some (.ifCond .eq 16, 3) := by unfold zzOp; rw [zm_148]; decide +kernel
theorem zo_148_12 : zzOp 148 12 = some (.iload_n 2, 1) := by unfold zzOp; rw [zm_148]; decide +kernel
theorem zo_148_13 : zzOp 148 13 = some (.iconst 1, 1) := by unfold zzOp; rw [zm_148]; decide +kernel
theorem zo_148_14 : zzOp 148 14 = some (.if_icmp .le 14, 3) := by unfold zzOp; rw [zm_148]; decide +kernel
theorem zo_148_17 : zzOp 148 17 = some (.aload_n 0, 1) := by unfold zzOp; rw [zm_148]; decide +kernel
theorem zo_148_18 : zzOp 148 18 = some (.iload_n 1, 1) := by unfold zzOp; rw [zm_148]; decide +kernel
theorem zo_148_19 : zzOp 148 19 = some (.invokevirtual 94, 3) := by unfold zzOp; rw [zm_148]; decide +kernel
theorem zo_148_22 : zzOp 148 22 = some (.ifCond .ne 6, 3) := by unfold zzOp; rw [zm_148]; decide +kernel
theorem zo_148_25 : zzOp 148 25 = some (.bipush (-2), 2) := by unfold zzOp; rw [zm_148]; decide +kernel
theorem zo_148_27 : zzOp 148 27 = some (.ireturn, 1) := by unfold zzOp; rw [zm_148]; decide +kernel
theorem zo_148_28 : zzOp 148 28 = some (.iload_n 2, 1) := by unfold zzOp; rw [zm_148]; decide +kernel
theorem zo_148_29 : zzOp 148 29 = some (.iconst 5, 1) := by unfold zzOp; rw [zm_148]; decide +kernel
theorem zo_148_30 : zzOp 148 30 = some (.if_icmp .ge 61, 3) := by unfold zzOp; rw [zm_148]; decide +kernel
theorem zo_148_33 : zzOp 148 33 = some (.iload_n 2, 1) := by unfold zzOp; rw [zm_148]; decide +kernel
theorem zo_148_34 : zzOp 148 34 = some (.ifCond .ne 10, 3) := by unfold zzOp; rw [zm_148]; decide +kernel
theorem zo_148_37 : zzOp 148 37 = some (.aload_n 0, 1) := by unfold zzOp; rw [zm_148]; decide +kernel
theorem zo_148_38 : zzOp 148 38 = some (.getfield 118, 3) := by unfold zzOp; rw [zm_148]; decide +kernel
theorem zo_148_41 : zzOp 148 41 = some (.goto 49, 3) := by unfold zzOp; rw [zm_148]; decide +kernel
theorem zo_148_44 : zzOp 148 44 = some (.iload_n 2, 1) := by unfold zzOp; rw [zm_148]; decide +kernel
theorem zo_148_45 : zzOp 148 45 = some (.iconst 1, 1) := by unfold zzOp; rw [zm_148]; decide +kernel
theorem zo_148_46 : zzOp 148 46 = some (.if_icmp .ne 10, 3) := by unfold zzOp; rw [zm_148]; decide +kernel
theorem zo_148_49 : zzOp 148 49 = some (.aload_n 0, 1) := by unfold zzOp; rw [zm_148]; decide +kernel
theorem zo_148_50 : zzOp 148 50 = some (.getfield 23, 3) := by unfold zzOp; rw [zm_148]; decide +kernel
theorem zo_148_53 : zzOp 148 53 = some (.goto 37, 3) := by unfold zzOp; rw [zm_148]; decide +kernel
theorem zo_148_56 : zzOp 148 56 = some (.iload_n 2, 1) := by unfold zzOp; rw [zm_148]; decide +kernel
theorem zo_148_57 : zzOp 148 57 = some (.iconst 2, 1) := by unfold zzOp; rw [zm_148]; decide +kernel
theorem zo_148_58 : zzOp 148 58 = some (.if_icmp .ne 12, 3) := by unfold zzOp; rw [zm_148]; decide +kernel
theorem zo_148_61 : zzOp 148 61 = some (.aload_n 0, 1) := by unfold zzOp; rw [zm_148]; decide +kernel
theorem zo_148_62 : zzOp 148 62 = some (.getfield 29, 3) := by unfold zzOp; rw [zm_148]; decide +kernel
theorem zo_148_65 : zzOp 148 65 = some (.iload_n 1, 1) := by unfold zzOp; rw [zm_148]; decide +kernel
theorem zo_148_66 : zzOp 148 66 = some (.iaload, 1) := by unfold zzOp; rw [zm_148]; decide +kernel
theorem zo_148_67 : zzOp 148 67 = some (.goto 23, 3) := by unfold zzOp; rw [zm_148]; decide +kernel
theorem zo_148_70 : zzOp 148 70 = some (.iload_n 2, 1) := by unfold zzOp; rw [zm_148]; decide +kernel
theorem zo_148_71 : zzOp 148 71 = some (.iconst 3, 1) := by unfold zzOp; rw [zm_148]; decide +kernel
theorem zo_148_72 : zzOp 148 72 = some (.if_icmp .ne 12, 3) := by unfold zzOp; rw [zm_148]; decide +kernel
theorem zo_148_75 : zzOp 148 75 = some (.aload_n 0, 1) := by unfold zzOp; rw [zm_148]; decide +kernel
theorem zo_148_76 : zzOp 148 76 = some (.getfield 32, 3) := by unfold zzOp; rw [zm_148]; decide +kernel
theorem zo_148_79 : zzOp 148 79 = some (.iload_n 1, 1) := by unfold zzOp; rw [zm_148]; decide +kernel
theorem zo_148_80 : zzOp 148 80 = some (.iaload, 1) := by unfold zzOp; rw [zm_148]; decide +kernel
theorem zo_148_81 : zzOp 148 81 = some (.goto 9, 3) := by unfold zzOp; rw [zm_148]; decide +kernel
theorem zo_148_84 : zzOp 148 84 = some (.aload_n 0, 1) := by unfold zzOp; rw [zm_148]; decide +kernel
theorem zo_148_85 : zzOp 148 85 = some (.getfield 26, 3) := by unfold zzOp; rw [zm_148]; decide +kernel
theorem zo_148_88 : zzOp 148 88 = some (.iload_n 1, 1) := by unfold zzOp; rw [zm_148]; decide +kernel
theorem zo_148_89 : zzOp 148 89 = some (.iaload, 1) := by unfold zzOp; rw [zm_148]; decide +kernel
theorem zo_148_90 : zzOp 148 90 = some (.ireturn, 1) := by unfold zzOp; rw [zm_148]; decide +kernel
theorem zo_148_91 : zzOp 148 91 = some (.iload_n 2, 1) := by unfold zzOp; rw [zm_148]; decide +kernel
theorem zo_148_92 : zzOp 148 92 = some (.iconst 5, 1) := by unfold zzOp; rw [zm_148]; decide +kernel
theorem zo_148_93 : zzOp 148 93 = some (.if_icmp .ne 12, 3) := by unfold zzOp; rw [zm_148]; decide +kernel
theorem zo_148_96 : zzOp 148 96 = some (.aload_n 0, 1) := by unfold zzOp; rw [zm_148]; decide +kernel
theorem zo_148_97 : zzOp 148 97 = some (.getfield 35, 3) := by unfold zzOp; rw [zm_148]; decide +kernel
theorem zo_148_100 : zzOp 148 100 = some (.iload_n 1, 1) := by unfold zzOp; rw [zm_148]; decide +kernel
theorem zo_148_101 : zzOp 148 101 = some (.iaload, 1) := by unfold zzOp; rw [zm_148]; decide +kernel
theorem zo_148_102 : zzOp 148 102 = some (.goto 62, 3) := by unfold zzOp; rw [zm_148]; decide +kernel
theorem zo_148_105 : zzOp 148 105 = some (.iload_n 2, 1) := by unfold zzOp; rw [zm_148]; decide +kernel
theorem zo_148_106 : zzOp 148 106 = some (.bipush 6, 2) := by unfold zzOp; rw [zm_148]; decide +kernel
theorem zo_148_108 : zzOp 148 108 = some (.if_icmp .ne 11, 3) := by unfold zzOp; rw [zm_148]; decide +kernel
theorem zo_148_111 : zzOp 148 111 = some (.aload_n 0, 1) := by unfold zzOp; rw [zm_148]; decide +kernel
theorem zo_148_112 : zzOp 148 112 = some (.iload_n 1, 1) := by unfold zzOp; rw [zm_148]; decide +kernel
theorem zo_148_113 : zzOp 148 113 = some (.invokevirtual 133, 3) := by unfold zzOp; rw [zm_148]; decide +kernel
theorem zo_148_116 : zzOp 148 116 = some (.goto 48, 3) := by unfold zzOp; rw [zm_148]; decide +kernel
theorem zo_148_119 : zzOp 148 119 = some (.iload_n 2, 1) := by unfold zzOp; rw [zm_148]; decide +kernel
theorem zo_148_120 : zzOp 148 120 = some (.bipush 7, 2) := by unfold zzOp; rw [zm_148]; decide +kernel
theorem zo_148_122 : zzOp 148 122 = some (.if_icmp .ne 15, 3) := by unfold zzOp; rw [zm_148]; decide +kernel
theorem zo_148_125 : zzOp 148 125 = some (.aload_n 0, 1) := by unfold zzOp; rw [zm_148]; decide +kernel
theorem zo_148_126 : zzOp 148 126 = some (.iload_n 1, 1) := by unfold zzOp; rw [zm_148]; decide +kernel
theorem zo_148_127 : zzOp 148 127 = some (.aload_n 0, 1) := by unfold zzOp; rw [zm_148]; decide +kernel
theorem zo_148_128 : zzOp 148 128 = some (.getfield 118, 3) := by unfold zzOp; rw [zm_148]; decide +kernel
theorem zo_148_131 : zzOp 148 131 = some (.invokevirtual 137, 3) := by unfold zzOp; rw [zm_148]; decide +kernel
theorem zo_148_134 : zzOp 148 134 = some (.goto 30, 3) := by unfold zzOp; rw [zm_148]; decide +kernel
theorem zo_148_137 : zzOp 148 137 = some (.iload_n 2, 1) := by unfold zzOp; rw [zm_148]; decide +kernel
theorem zo_148_138 : zzOp 148 138 = some (.bipush 8, 2) := by unfold zzOp; rw [zm_148]; decide +kernel
theorem zo_148_140 : zzOp 148 140 = some (.if_icmp .ne 11, 3) := by unfold zzOp; rw [zm_148]; decide +kernel
theorem zo_148_143 : zzOp 148 143 = some (.aload_n 0, 1) := by unfold zzOp; rw [zm_148]; decide +kernel
theorem zo_148_144 : zzOp 148 144 = some (.iload_n 1, 1) := by unfold zzOp; rw [zm_148]; decide +kernel
theorem zo_148_145 : zzOp 148 145 = some (.invokevirtual 140, 3) := by unfold zzOp; rw [zm_148]; decide +kernel
theorem zo_148_148 : zzOp 148 148 = some (.goto 16, 3) := by unfold zzOp; rw [zm_148]; decide +kernel
theorem zo_148_151 : zzOp 148 151 = some (.aload_n 0, 1) := by unfold zzOp; rw [zm_148]; decide +kernel
theorem zo_148_152 : zzOp 148 152 = some (.iload_n 1, 1) := by unfold zzOp; rw [zm_148]; decide +kernel
theorem zo_148_153 : zzOp 148 153 = some (.invokevirtual 143, 3) := by unfold zzOp; rw [zm_148]; decide +kernel
theorem zo_148_156 : zzOp 148 156 = some (.ifCond .eq 7, 3) := by unfold zzOp; rw [zm_148]; decide +kernel
theorem zo_148_159 : zzOp 148 159 = some (.iconst 1, 1) := by unfold zzOp; rw [zm_148]; decide +kernel
theorem zo_148_160 : zzOp 148 160 = some (.goto 4, 3) := by unfold zzOp; rw [zm_148]; decide +kernel
theorem zo_148_163 : zzOp 148 163 = some (.iconst 0, 1) := by unfold zzOp; rw [zm_148]; decide +kernel
theorem zo_148_164 : zzOp 148 164 = some (.ireturn, 1) := by unfold zzOp; rw [zm_148]; decide +kernel
theorem zf_148_23 : zzGet zzFL (zzM 148).2.2.2.2.1 23 = some (7, 8) := by rw [zm_148]; decide +kernel
theorem zf_148_26 : zzGet zzFL (zzM 148).2.2.2.2.1 26 = some (7, 9) := by rw [zm_148]; decide +kernel
theorem zf_148_29 : zzGet zzFL (zzM 148).2.2.2.2.1 29 = some (7, 10) := by rw [zm_148]; decide +kernel
theorem zf_148_32 : zzGet zzFL (zzM 148).2.2.2.2.1 32 = some (7, 11) := by rw [zm_148]; decide +kernel
theorem zf_148_35 : zzGet zzFL (zzM 148).2.2.2.2.1 35 = some (7, 12) := by rw [zm_148]; decide +kernel
theorem zf_148_118 : zzGet zzFL (zzM 148).2.2.2.2.1 118 = some (7, 7) := by rw [zm_148]; decide +kernel
theorem zl_148_88 : zzGet zzML (zzM 148).2.2.2.2.1 88 = some (0, 136) := by rw [zm_148]; decide +kernel
theorem zl_148_94 : zzGet zzML (zzM 148).2.2.2.2.1 94 = some (2, 140) := by rw [zm_148]; decide +kernel
theorem zl_148_133 : zzGet zzML (zzM 148).2.2.2.2.1 133 = some (2, 175) := by rw [zm_148]; decide +kernel
theorem zl_148_137 : zzGet zzML (zzM 148).2.2.2.2.1 137 = some (2, 176) := by rw [zm_148]; decide +kernel
theorem zl_148_140 : zzGet zzML (zzM 148).2.2.2.2.1 140 = some (2, 170) := by rw [zm_148]; decide +kernel
theorem zl_148_143 : zzGet zzML (zzM 148).2.2.2.2.1 143 = some (2, 172) := by rw [zm_148]; decide +kernel
theorem zc_148_102 : zzGet zzKL (zzM 148).2.2.2.2.1 102 = some (9) := by rw [zm_148]; decide +kernel
theorem zm_149 : zzM 149 = (yX7_who, cX7_who, 2, (some .int), 7, 2, 1, zzc_149) := rfl
theorem zr_149 : (zzM 149).2.2.2.1 = (some .int) := by rw [zm_149]
theorem zo_149_0 : zzOp 149 0 = some (.iload_n 1, 1) := by unfold zzOp; rw [zm_149]; decide +kernel
theorem zo_149_1 : zzOp 149 1 = some (.invokestatic 126, 3) := by unfold zzOp; rw [zm_149]; decide +kernel
theorem zo_149_4 : zzOp 149 4 = some (.ifCond .eq 12, 3) := by unfold zzOp; rw [zm_149]; decide +kernel
theorem zo_149_7 : zzOp 149 7 = some (.aload_n 0, 1) := by unfold zzOp; rw [zm_149]; decide +kernel
theorem zo_149_8 : zzOp 149 8 = some (.getfield 38, 3) := by unfold zzOp; rw [zm_149]; decide +kernel
theorem zo_149_11 : zzOp 149 11 = some (.iload_n 1, 1) := by unfold zzOp; rw [zm_149]; decide +kernel
theorem zo_149_12 : zzOp 149 12 = some (.iaload, 1) := by unfold zzOp; rw [zm_149]; decide +kernel
theorem zo_149_13 : zzOp 149 13 = some (.goto 5, 3) := by unfold zzOp; rw [zm_149]; decide +kernel
theorem zo_149_16 : zzOp 149 16 = some (.bipush (-2), 2) := by unfold zzOp; rw [zm_149]; decide +kernel
theorem zo_149_18 : zzOp 149 18 = some (.ireturn, 1) := by unfold zzOp; rw [zm_149]; decide +kernel
theorem zf_149_38 : zzGet zzFL (zzM 149).2.2.2.2.1 38 = some (7, 13) := by rw [zm_149]; decide +kernel
theorem zl_149_126 : zzGet zzML (zzM 149).2.2.2.2.1 126 = some (0, 141) := by rw [zm_149]; decide +kernel
theorem zm_150 : zzM 150 = (yX7_feed, cX7_feed, 2, (some .int), 7, 2, 1, zzc_150) := rfl
theorem zr_150 : (zzM 150).2.2.2.1 = (some .int) := by rw [zm_150]
theorem zo_150_0 : zzOp 150 0 = some (.iload_n 1, 1) := by unfold zzOp; rw [zm_150]; decide +kernel
theorem zo_150_1 : zzOp 150 1 = some (.i2l, 1) := by unfold zzOp; rw [zm_150]; decide +kernel
theorem zo_150_2 : zzOp 150 2 = some (.lconst 0, 1) := by unfold zzOp; rw [zm_150]; decide +kernel
theorem zo_150_3 : zzOp 150 3 = some (.ldc2_w 146, 3) := by unfold zzOp; rw [zm_150]; decide +kernel
theorem zo_150_6 : zzOp 150 6 = some (.invokestatic 88, 3) := by unfold zzOp; rw [zm_150]; decide +kernel
theorem zo_150_9 : zzOp 150 9 = some (.ifCond .ne 6, 3) := by unfold zzOp; rw [zm_150]; decide +kernel
theorem zo_150_12 : zzOp 150 12 = some (.bipush (-2), 2) := by unfold zzOp; rw [zm_150]; decide +kernel
theorem zo_150_14 : zzOp 150 14 = some (.ireturn, 1) := by unfold zzOp; rw [zm_150]; decide +kernel
theorem zo_150_15 : zzOp 150 15 = some (.aload_n 0, 1) := by unfold zzOp; rw [zm_150]; decide +kernel
theorem zo_150_16 : zzOp 150 16 = some (.getfield 148, 3) := by unfold zzOp; rw [zm_150]; decide +kernel
theorem zo_150_19 : zzOp 150 19 = some (.sipush 160, 3) := by unfold zzOp; rw [zm_150]; decide +kernel
theorem zo_150_22 : zzOp 150 22 = some (.if_icmp .ne 6, 3) := by unfold zzOp; rw [zm_150]; decide +kernel
theorem zo_150_25 : zzOp 150 25 = some (.bipush (-4), 2) := by unfold zzOp; rw [zm_150]; decide +kernel
theorem zo_150_27 : zzOp 150 27 = some (.ireturn, 1) := by unfold zzOp; rw [zm_150]; decide +kernel
theorem zo_150_28 : zzOp 150 28 = some (.aload_n 0, 1) := by unfold zzOp; rw [zm_150]; decide +kernel
theorem zo_150_29 : zzOp 150 29 = some (.getfield 20, 3) := by unfold zzOp; rw [zm_150]; decide +kernel
theorem zo_150_32 : zzOp 150 32 = some (.aload_n 0, 1) := by unfold zzOp; rw [zm_150]; decide +kernel
theorem zo_150_33 : zzOp 150 33 = some (.getfield 148, 3) := by unfold zzOp; rw [zm_150]; decide +kernel
theorem zo_150_36 : zzOp 150 36 = some (.iload_n 1, 1) := by unfold zzOp; rw [zm_150]; decide +kernel
theorem zo_150_37 : zzOp 150 37 = some (.iastore, 1) := by unfold zzOp; rw [zm_150]; decide +kernel
theorem zo_150_38 : zzOp 150 38 = some (.aload_n 0, 1) := by unfold zzOp; rw [zm_150]; decide +kernel
theorem zo_150_39 : zzOp 150 39 = some (.dup, 1) := by unfold zzOp; rw [zm_150]; decide +kernel
theorem zo_150_40 : zzOp 150 40 = some (.getfield 148, 3) := by unfold zzOp; rw [zm_150]; decide +kernel
theorem zo_150_43 : zzOp 150 43 = some (.iconst 1, 1) := by unfold zzOp; rw [zm_150]; decide +kernel
theorem zo_150_44 : zzOp 150 44 = some (.iadd, 1) := by unfold zzOp; rw [zm_150]; decide +kernel
theorem zo_150_45 : zzOp 150 45 = some (.putfield 148, 3) := by unfold zzOp; rw [zm_150]; decide +kernel
theorem zo_150_48 : zzOp 150 48 = some (.aload_n 0, 1) := by unfold zzOp; rw [zm_150]; decide +kernel
theorem zo_150_49 : zzOp 150 49 = some (.getfield 148, 3) := by unfold zzOp; rw [zm_150]; decide +kernel
theorem zo_150_52 : zzOp 150 52 = some (.ireturn, 1) := by unfold zzOp; rw [zm_150]; decide +kernel
theorem zf_150_20 : zzGet zzFL (zzM 150).2.2.2.2.1 20 = some (7, 5) := by rw [zm_150]; decide +kernel
theorem zf_150_148 : zzGet zzFL (zzM 150).2.2.2.2.1 148 = some (7, 6) := by rw [zm_150]; decide +kernel
theorem zl_150_88 : zzGet zzML (zzM 150).2.2.2.2.1 88 = some (0, 136) := by rw [zm_150]; decide +kernel
theorem zc_150_146 : zzGet zzKL (zzM 150).2.2.2.2.1 146 = some (255) := by rw [zm_150]; decide +kernel
theorem zm_151 : zzM 151 = (yX7_byteAt, cX7_byteAt, 2, (some .int), 7, 2, 1, zzc_151) := rfl
theorem zr_151 : (zzM 151).2.2.2.1 = (some .int) := by rw [zm_151]
theorem zo_151_0 : zzOp 151 0 = some (.iload_n 1, 1) := by unfold zzOp; rw [zm_151]; decide +kernel
theorem zo_151_1 : zzOp 151 1 = some (.aload_n 0, 1) := by unfold zzOp; rw [zm_151]; decide +kernel
theorem zo_151_2 : zzOp 151 2 = some (.getfield 151, 3) := by unfold zzOp; rw [zm_151]; decide +kernel
theorem zo_151_5 : zzOp 151 5 = some (.if_icmp .ge 17, 3) := by unfold zzOp; rw [zm_151]; decide +kernel
theorem zo_151_8 : zzOp 151 8 = some (.aload_n 0, 1) := by unfold zzOp; rw [zm_151]; decide +kernel
theorem zo_151_9 : zzOp 151 9 = some (.getfield 13, 3) := by unfold zzOp; rw [zm_151]; decide +kernel
theorem zo_151_12 : zzOp 151 12 = some (.aload_n 0, 1) := by unfold zzOp; rw [zm_151]; decide +kernel
theorem zo_151_13 : zzOp 151 13 = some (.getfield 154, 3) := by unfold zzOp; rw [zm_151]; decide +kernel
theorem zo_151_16 : zzOp 151 16 = some (.iload_n 1, 1) := by unfold zzOp; rw [zm_151]; decide +kernel
theorem zo_151_17 : zzOp 151 17 = some (.iadd, 1) := by unfold zzOp; rw [zm_151]; decide +kernel
theorem zo_151_18 : zzOp 151 18 = some (.iaload, 1) := by unfold zzOp; rw [zm_151]; decide +kernel
theorem zo_151_19 : zzOp 151 19 = some (.goto 4, 3) := by unfold zzOp; rw [zm_151]; decide +kernel
theorem zo_151_22 : zzOp 151 22 = some (.iconst (-1), 1) := by unfold zzOp; rw [zm_151]; decide +kernel
theorem zo_151_23 : zzOp 151 23 = some (.ireturn, 1) := by unfold zzOp; rw [zm_151]; decide +kernel
theorem zf_151_13 : zzGet zzFL (zzM 151).2.2.2.2.1 13 = some (7, 1) := by rw [zm_151]; decide +kernel
theorem zf_151_151 : zzGet zzFL (zzM 151).2.2.2.2.1 151 = some (7, 22) := by rw [zm_151]; decide +kernel
theorem zf_151_154 : zzGet zzFL (zzM 151).2.2.2.2.1 154 = some (7, 21) := by rw [zm_151]; decide +kernel
theorem zm_152 : zzM 152 = (yX7_next, cX7_next, 3, none, 7, 1, 1, zzc_152) := rfl
theorem zr_152 : (zzM 152).2.2.2.1 = none := by rw [zm_152]
theorem zo_152_0 : zzOp 152 0 = some (.aload_n 0, 1) := by unfold zzOp; rw [zm_152]; decide +kernel
theorem zo_152_1 : zzOp 152 1 = some (.aload_n 0, 1) := by unfold zzOp; rw [zm_152]; decide +kernel
theorem zo_152_2 : zzOp 152 2 = some (.getfield 157, 3) := by unfold zzOp; rw [zm_152]; decide +kernel
theorem zo_152_5 : zzOp 152 5 = some (.invokevirtual 160, 3) := by unfold zzOp; rw [zm_152]; decide +kernel
theorem zo_152_8 : zzOp 152 8 = some (.bipush 32, 2) := by unfold zzOp; rw [zm_152]; decide +kernel
theorem zo_152_10 : zzOp 152 10 = some (.if_icmp .eq 16, 3) := by unfold zzOp; rw [zm_152]; decide +kernel
theorem zo_152_13 : zzOp 152 13 = some (.aload_n 0, 1) := by unfold zzOp; rw [zm_152]; decide +kernel
theorem zo_152_14 : zzOp 152 14 = some (.aload_n 0, 1) := by unfold zzOp; rw [zm_152]; decide +kernel
theorem zo_152_15 : zzOp 152 15 = some (.getfield 157, 3) := by unfold zzOp; rw [zm_152]; decide +kernel
theorem zo_152_18 : zzOp 152 18 = some (.invokevirtual 160, 3) := by unfold zzOp; rw [zm_152]; decide +kernel
theorem zo_152_21 : zzOp 152 21 = some (.bipush 10, 2) := by unfold zzOp; rw [zm_152]; decide +kernel
theorem zo_152_23 : zzOp 152 23 = some (.if_icmp .ne 16, 3) := by unfold zzOp; rw [zm_152]; decide +kernel
theorem zo_152_26 : zzOp 152 26 = some (.aload_n 0, 1) := by unfold zzOp; rw [zm_152]; decide +kernel
theorem zo_152_27 : zzOp 152 27 = some (.dup, 1) := by unfold zzOp; rw [zm_152]; decide +kernel
theorem zo_152_28 : zzOp 152 28 = some (.getfield 157, 3) := by unfold zzOp; rw [zm_152]; decide +kernel
theorem zo_152_31 : zzOp 152 31 = some (.iconst 1, 1) := by unfold zzOp; rw [zm_152]; decide +kernel
theorem zo_152_32 : zzOp 152 32 = some (.iadd, 1) := by unfold zzOp; rw [zm_152]; decide +kernel
theorem zo_152_33 : zzOp 152 33 = some (.putfield 157, 3) := by unfold zzOp; rw [zm_152]; decide +kernel
theorem zo_152_36 : zzOp 152 36 = some (.goto (-36), 3) := by unfold zzOp; rw [zm_152]; decide +kernel
theorem zo_152_39 : zzOp 152 39 = some (.aload_n 0, 1) := by unfold zzOp; rw [zm_152]; decide +kernel
theorem zo_152_40 : zzOp 152 40 = some (.aload_n 0, 1) := by unfold zzOp; rw [zm_152]; decide +kernel
theorem zo_152_41 : zzOp 152 41 = some (.getfield 157, 3) := by unfold zzOp; rw [zm_152]; decide +kernel
theorem zo_152_44 : zzOp 152 44 = some (.putfield 163, 3) := by unfold zzOp; rw [zm_152]; decide +kernel
theorem zo_152_47 : zzOp 152 47 = some (.aload_n 0, 1) := by unfold zzOp; rw [zm_152]; decide +kernel
theorem zo_152_48 : zzOp 152 48 = some (.aload_n 0, 1) := by unfold zzOp; rw [zm_152]; decide +kernel
theorem zo_152_49 : zzOp 152 49 = some (.getfield 157, 3) := by unfold zzOp; rw [zm_152]; decide +kernel
theorem zo_152_52 : zzOp 152 52 = some (.invokevirtual 160, 3) := by unfold zzOp; rw [zm_152]; decide +kernel
theorem zo_152_55 : zzOp 152 55 = some (.istore_n 1, 1) := by unfold zzOp; rw [zm_152]; decide +kernel
theorem zo_152_56 : zzOp 152 56 = some (.aload_n 0, 1) := by unfold zzOp; rw [zm_152]; decide +kernel
theorem zo_152_57 : zzOp 152 57 = some (.iconst 4, 1) := by unfold zzOp; rw [zm_152]; decide +kernel
theorem zo_152_58 : zzOp 152 58 = some (.putfield 166, 3) := by unfold zzOp; rw [zm_152]; decide +kernel
theorem zo_152_61 : zzOp 152 61 = some (.iload_n 1, 1) := by unfold zzOp; rw [zm_152]; decide +kernel
theorem zo_152_62 : zzOp 152 62 = some (.ifCond .ge 19, 3) := by unfold zzOp; rw [zm_152]; decide +kernel
theorem zo_152_65 : zzOp 152 65 = some (.aload_n 0, 1) := by unfold zzOp; rw [zm_152]; decide +kernel
theorem zo_152_66 : zzOp 152 66 = some (.iconst 0, 1) := by unfold zzOp; rw [zm_152]; decide +kernel
theorem zo_152_67 : zzOp 152 67 = some (.putfield 166, 3) := by unfold zzOp; rw [zm_152]; decide +kernel
theorem zo_152_70 : zzOp 152 70 = some (.aload_n 0, 1) := by unfold zzOp; rw [zm_152]; decide +kernel
theorem zo_152_71 : zzOp 152 71 = some (.aload_n 0, 1) := by unfold zzOp; rw [zm_152]; decide +kernel
theorem zo_152_72 : zzOp 152 72 = some (.getfield 151, 3) := by unfold zzOp; rw [zm_152]; decide +kernel
theorem zo_152_75 : zzOp 152 75 = some (.putfield 163, 3) := by unfold zzOp; rw [zm_152]; decide +kernel
theorem zo_152_78 : zzOp 152 78 = some (.goto 243, 3) := by unfold zzOp; rw [zm_152]; decide +kernel
theorem zo_152_81 : zzOp 152 81 = some (.iload_n 1, 1) := by unfold zzOp; rw [zm_152]; decide +kernel
theorem zo_152_82 : zzOp 152 82 = some (.i2l, 1) := by unfold zzOp; rw [zm_152]; decide +kernel
theorem zo_152_83 : zzOp 152 83 = some (.ldc2_w 169, 3) := by unfold zzOp; rw [zm_152]; decide +kernel
theorem zo_152_86 : zzOp 152 86 = some (.ldc2_w 171, 3) := by unfold zzOp; rw [zm_152]; decide +kernel
theorem zo_152_89 : zzOp 152 89 = some (.invokestatic 88, 3) := by unfold zzOp; rw [zm_152]; decide +kernel
theorem zo_152_92 : zzOp 152 92 = some (.ifCond .eq 42, 3) := by unfold zzOp; rw [zm_152]; decide +kernel
theorem zo_152_95 : zzOp 152 95 = some (.aload_n 0, 1) := by unfold zzOp; rw [zm_152]; decide +kernel
theorem zo_152_96 : zzOp 152 96 = some (.iconst 1, 1) := by unfold zzOp; rw [zm_152]; decide +kernel
theorem zo_152_97 : zzOp 152 97 = some (.putfield 166, 3) := by unfold zzOp; rw [zm_152]; decide +kernel
theorem zo_152_100 : zzOp 152 100 = some (.aload_n 0, 1) := by unfold zzOp; rw [zm_152]; decide +kernel
theorem zo_152_101 : zzOp 152 101 = some (.aload_n 0, 1) := by unfold zzOp; rw [zm_152]; decide +kernel
theorem zo_152_102 : zzOp 152 102 = some (.getfield 157, 3) := by unfold zzOp; rw [zm_152]; decide +kernel
theorem zo_152_105 : zzOp 152 105 = some (.invokevirtual 160, 3) := by unfold zzOp; rw [zm_152]; decide +kernel
theorem zo_152_108 : zzOp 152 108 = some (.i2l, 1) := by unfold zzOp; rw [zm_152]; decide +kernel
theorem zo_152_109 : zzOp 152 109 = some (.ldc2_w 169, 3) := by unfold zzOp; rw [zm_152]; decide +kernel
theorem zo_152_112 : zzOp 152 112 = some (.ldc2_w 171, 3) := by unfold zzOp; rw [zm_152]; decide +kernel
theorem zo_152_115 : zzOp 152 115 = some (.invokestatic 88, 3) := by unfold zzOp; rw [zm_152]; decide +kernel
theorem zo_152_118 : zzOp 152 118 = some (.ifCond .eq 203, 3) := by unfold zzOp; rw [zm_152]; decide +kernel
theorem zo_152_121 : zzOp 152 121 = some (.aload_n 0, 1) := by unfold zzOp; rw [zm_152]; decide +kernel
theorem zo_152_122 : zzOp 152 122 = some (.dup, 1) := by unfold zzOp; rw [zm_152]; decide +kernel
theorem zo_152_123 : zzOp 152 123 = some (.getfield 157, 3) := by unfold zzOp; rw [zm_152]; decide +kernel
theorem zo_152_126 : zzOp 152 126 = some (.iconst 1, 1) := by unfold zzOp; rw [zm_152]; decide +kernel
theorem zo_152_127 : zzOp 152 127 = some (.iadd, 1) := by unfold zzOp; rw [zm_152]; decide +kernel
theorem zo_152_128 : zzOp 152 128 = some (.putfield 157, 3) := by unfold zzOp; rw [zm_152]; decide +kernel
theorem zo_152_131 : zzOp 152 131 = some (.goto (-31), 3) := by unfold zzOp; rw [zm_152]; decide +kernel
theorem zo_152_134 : zzOp 152 134 = some (.iload_n 1, 1) := by unfold zzOp; rw [zm_152]; decide +kernel
theorem zo_152_135 : zzOp 152 135 = some (.i2l, 1) := by unfold zzOp; rw [zm_152]; decide +kernel
theorem zo_152_136 : zzOp 152 136 = some (.ldc2_w 173, 3) := by unfold zzOp; rw [zm_152]; decide +kernel
theorem zo_152_139 : zzOp 152 139 = some (.ldc2_w 175, 3) := by unfold zzOp; rw [zm_152]; decide +kernel
theorem zo_152_142 : zzOp 152 142 = some (.invokestatic 88, 3) := by unfold zzOp; rw [zm_152]; decide +kernel
theorem zo_152_145 : zzOp 152 145 = some (.ifCond .eq 107, 3) := by unfold zzOp; rw [zm_152]; decide +kernel
theorem zo_152_148 : zzOp 152 148 = some (.aload_n 0, 1) := by unfold zzOp; rw [zm_152]; decide +kernel
theorem zo_152_149 : zzOp 152 149 = some (.iconst 2, 1) := by unfold zzOp; rw [zm_152]; decide +kernel
theorem zo_152_150 : zzOp 152 150 = some (.putfield 166, 3) := by unfold zzOp; rw [zm_152]; decide +kernel
theorem zo_152_153 : zzOp 152 153 = some (.aload_n 0, 1) := by unfold zzOp; rw [zm_152]; decide +kernel
theorem zo_152_154 : zzOp 152 154 = some (.lconst 0, 1) := by unfold zzOp; rw [zm_152]; decide +kernel
theorem zo_152_155 : zzOp 152 155 = some (.putfield 177, 3) := by unfold zzOp; rw [zm_152]; decide +kernel
theorem zo_152_158 : zzOp 152 158 = some (.iconst 0, 1) := by unfold zzOp; rw [zm_152]; decide +kernel
theorem zo_152_159 : zzOp 152 159 = some (.istore_n 2, 1) := by unfold zzOp; rw [zm_152]; decide +kernel
theorem zo_152_160 : zzOp 152 160 = some (.aload_n 0, 1) := by unfold zzOp; rw [zm_152]; decide +kernel
theorem zo_152_161 : zzOp 152 161 = some (.aload_n 0, 1) := by unfold zzOp; rw [zm_152]; decide +kernel
theorem zo_152_162 : zzOp 152 162 = some (.getfield 157, 3) := by unfold zzOp; rw [zm_152]; decide +kernel
theorem zo_152_165 : zzOp 152 165 = some (.invokevirtual 160, 3) := by unfold zzOp; rw [zm_152]; decide +kernel
theorem zo_152_168 : zzOp 152 168 = some (.i2l, 1) := by unfold zzOp; rw [zm_152]; decide +kernel
theorem zo_152_169 : zzOp 152 169 = some (.ldc2_w 173, 3) := by unfold zzOp; rw [zm_152]; decide +kernel
theorem zo_152_172 : zzOp 152 172 = some (.ldc2_w 175, 3) := by unfold zzOp; rw [zm_152]; decide +kernel
theorem zo_152_175 : zzOp 152 175 = some (.invokestatic 88, 3) := by unfold zzOp; rw [zm_152]; decide +kernel
theorem zo_152_178 : zzOp 152 178 = some (.ifCond .eq 57, 3) := by unfold zzOp; rw [zm_152]; decide +kernel
theorem zo_152_181 : zzOp 152 181 = some (.aload_n 0, 1) := by unfold zzOp; rw [zm_152]; decide +kernel
theorem zo_152_182 : zzOp 152 182 = some (.iload_n 2, 1) := by unfold zzOp; rw [zm_152]; decide +kernel
theorem zo_152_183 : zzOp 152 183 = some (.iconst 4, 1) := by unfold zzOp; rw [zm_152]; decide +kernel
theorem zo_152_184 : zzOp 152 184 = some (.if_icmp .ge 28, 3) := by unfold zzOp; rw [zm_152]; decide +kernel
theorem zo_152_187 : zzOp 152 187 = some (.ldc2_w 181, 3) := by unfold zzOp; rw [zm_152]; decide +kernel
theorem zo_152_190 : zzOp 152 190 = some (.aload_n 0, 1) := by unfold zzOp; rw [zm_152]; decide +kernel
theorem zo_152_191 : zzOp 152 191 = some (.getfield 177, 3) := by unfold zzOp; rw [zm_152]; decide +kernel
theorem zo_152_194 : zzOp 152 194 = some (.lmul, 1) := by unfold zzOp; rw [zm_152]; decide +kernel
theorem zo_152_195 : zzOp 152 195 = some (.aload_n 0, 1) := by unfold zzOp; rw [zm_152]; decide +kernel
theorem zo_152_196 : zzOp 152 196 = some (.aload_n 0, 1) := by unfold zzOp; rw [zm_152]; decide +kernel
theorem zo_152_197 : zzOp 152 197 = some (.getfield 157, 3) := by unfold zzOp; rw [zm_152]; decide +kernel
theorem zo_152_200 : zzOp 152 200 = some (.invokevirtual 160, 3) := by unfold zzOp; rw [zm_152]; decide +kernel
theorem zo_152_203 : zzOp 152 203 = some (.i2l, 1) := by unfold zzOp; rw [zm_152]; decide +kernel
theorem zo_152_204 : zzOp 152 204 = some (.ladd, 1) := by unfold zzOp; rw [zm_152]; decide +kernel
theorem zo_152_205 : zzOp 152 205 = some (.ldc2_w 173, 3) := by unfold zzOp; rw [zm_152]; decide +kernel
theorem zo_152_208 : zzOp 152 208 = some (.lsub, 1) := by unfold zzOp; rw [zm_152]; decide +kernel
theorem zo_152_209 : zzOp 152 209 = some (.goto 7, 3) := by unfold zzOp; rw [zm_152]; decide +kernel
theorem zo_152_212 : zzOp 152 212 = some (.aload_n 0, 1) := by unfold zzOp; rw [zm_152]; decide +kernel
theorem zo_152_213 : zzOp 152 213 = some (.getfield 177, 3) := by unfold zzOp; rw [zm_152]; decide +kernel
theorem zo_152_216 : zzOp 152 216 = some (.putfield 177, 3) := by unfold zzOp; rw [zm_152]; decide +kernel
theorem zo_152_219 : zzOp 152 219 = some (.iinc 2 1, 3) := by unfold zzOp; rw [zm_152]; decide +kernel
theorem zo_152_222 : zzOp 152 222 = some (.aload_n 0, 1) := by unfold zzOp; rw [zm_152]; decide +kernel
theorem zo_152_223 : zzOp 152 223 = some (.dup, 1) := by unfold zzOp; rw [zm_152]; decide +kernel
theorem zo_152_224 : zzOp 152 224 = some (.getfield 157, 3) := by unfold zzOp; rw [zm_152]; decide +kernel
theorem zo_152_227 : zzOp 152 227 = some (.iconst 1, 1) := by unfold zzOp; rw [zm_152]; decide +kernel
theorem zo_152_228 : zzOp 152 228 = some (.iadd, 1) := by unfold zzOp; rw [zm_152]; decide +kernel
theorem zo_152_229 : zzOp 152 229 = some (.putfield 157, 3) := by unfold zzOp; rw [zm_152]; decide +kernel
theorem zo_152_232 : zzOp 152 232 = some (.goto (-72), 3) := by unfold zzOp; rw [zm_152]; decide +kernel
theorem zo_152_235 : zzOp 152 235 = some (.aload_n 0, 1) := by unfold zzOp; rw [zm_152]; decide +kernel
theorem zo_152_236 : zzOp 152 236 = some (.iload_n 2, 1) := by unfold zzOp; rw [zm_152]; decide +kernel
theorem zo_152_237 : zzOp 152 237 = some (.iconst 4, 1) := by unfold zzOp; rw [zm_152]; decide +kernel
theorem zo_152_238 : zzOp 152 238 = some (.if_icmp .le 7, 3) := by unfold zzOp; rw [zm_152]; decide +kernel
theorem zo_152_241 : zzOp 152 241 = some (.iconst 4, 1) := by unfold zzOp; rw [zm_152]; decide +kernel
theorem zo_152_242 : zzOp 152 242 = some (.goto 4, 3) := by unfold zzOp; rw [zm_152]; decide +kernel
theorem zo_152_245 : zzOp 152 245 = some (.iconst 2, 1) := by unfold zzOp; rw [zm_152]; decide +kernel
theorem zo_152_246 : zzOp 152 246 = some (.putfield 166, 3) := by unfold zzOp; rw [zm_152]; decide +kernel
theorem zo_152_249 : zzOp 152 249 = some (.goto 72, 3) := by unfold zzOp; rw [zm_152]; decide +kernel
theorem zo_152_252 : zzOp 152 252 = some (.iload_n 1, 1) := by unfold zzOp; rw [zm_152]; decide +kernel
theorem zo_152_253 : zzOp 152 253 = some (.bipush 40, 2) := by unfold zzOp; rw [zm_152]; decide +kernel
theorem zo_152_255 : zzOp 152 255 = some (.if_icmp .eq 45, 3) := by unfold zzOp; rw [zm_152]; decide +kernel
theorem zo_152_258 : zzOp 152 258 = some (.iload_n 1, 1) := by unfold zzOp; rw [zm_152]; decide +kernel
theorem zo_152_259 : zzOp 152 259 = some (.bipush 41, 2) := by unfold zzOp; rw [zm_152]; decide +kernel
theorem zo_152_261 : zzOp 152 261 = some (.if_icmp .eq 39, 3) := by unfold zzOp; rw [zm_152]; decide +kernel
theorem zo_152_264 : zzOp 152 264 = some (.iload_n 1, 1) := by unfold zzOp; rw [zm_152]; decide +kernel
theorem zo_152_265 : zzOp 152 265 = some (.bipush 59, 2) := by unfold zzOp; rw [zm_152]; decide +kernel
theorem zo_152_267 : zzOp 152 267 = some (.if_icmp .eq 33, 3) := by unfold zzOp; rw [zm_152]; decide +kernel
theorem zo_152_270 : zzOp 152 270 = some (.iload_n 1, 1) := by unfold zzOp; rw [zm_152]; decide +kernel
theorem zo_152_271 : zzOp 152 271 = some (.bipush 43, 2) := by unfold zzOp; rw [zm_152]; decide +kernel
theorem zo_152_273 : zzOp 152 273 = some (.if_icmp .eq 27, 3) := by unfold zzOp; rw [zm_152]; decide +kernel
theorem zo_152_276 : zzOp 152 276 = some (.iload_n 1, 1) := by unfold zzOp; rw [zm_152]; decide +kernel
theorem zo_152_277 : zzOp 152 277 = some (.bipush 45, 2) := by unfold zzOp; rw [zm_152]; decide +kernel
theorem zo_152_279 : zzOp 152 279 = some (.if_icmp .eq 21, 3) := by unfold zzOp; rw [zm_152]; decide +kernel
theorem zo_152_282 : zzOp 152 282 = some (.iload_n 1, 1) := by unfold zzOp; rw [zm_152]; decide +kernel
theorem zo_152_283 : zzOp 152 283 = some (.bipush 42, 2) := by unfold zzOp; rw [zm_152]; decide +kernel
theorem zo_152_285 : zzOp 152 285 = some (.if_icmp .eq 15, 3) := by unfold zzOp; rw [zm_152]; decide +kernel
theorem zo_152_288 : zzOp 152 288 = some (.iload_n 1, 1) := by unfold zzOp; rw [zm_152]; decide +kernel
theorem zo_152_289 : zzOp 152 289 = some (.bipush 60, 2) := by unfold zzOp; rw [zm_152]; decide +kernel
theorem zo_152_291 : zzOp 152 291 = some (.if_icmp .eq 9, 3) := by unfold zzOp; rw [zm_152]; decide +kernel
theorem zo_152_294 : zzOp 152 294 = some (.iload_n 1, 1) := by unfold zzOp; rw [zm_152]; decide +kernel
theorem zo_152_295 : zzOp 152 295 = some (.bipush 61, 2) := by unfold zzOp; rw [zm_152]; decide +kernel
theorem zo_152_297 : zzOp 152 297 = some (.if_icmp .ne 24, 3) := by unfold zzOp; rw [zm_152]; decide +kernel
theorem zo_152_300 : zzOp 152 300 = some (.aload_n 0, 1) := by unfold zzOp; rw [zm_152]; decide +kernel
theorem zo_152_301 : zzOp 152 301 = some (.iconst 3, 1) := by unfold zzOp; rw [zm_152]; decide +kernel
theorem zo_152_302 : zzOp 152 302 = some (.putfield 166, 3) := by unfold zzOp; rw [zm_152]; decide +kernel
theorem zo_152_305 : zzOp 152 305 = some (.aload_n 0, 1) := by unfold zzOp; rw [zm_152]; decide +kernel
theorem zo_152_306 : zzOp 152 306 = some (.iload_n 1, 1) := by unfold zzOp; rw [zm_152]; decide +kernel
theorem zo_152_307 : zzOp 152 307 = some (.i2l, 1) := by unfold zzOp; rw [zm_152]; decide +kernel
theorem zo_152_308 : zzOp 152 308 = some (.putfield 177, 3) := by unfold zzOp; rw [zm_152]; decide +kernel
theorem zo_152_311 : zzOp 152 311 = some (.aload_n 0, 1) := by unfold zzOp; rw [zm_152]; decide +kernel
theorem zo_152_312 : zzOp 152 312 = some (.dup, 1) := by unfold zzOp; rw [zm_152]; decide +kernel
theorem zo_152_313 : zzOp 152 313 = some (.getfield 157, 3) := by unfold zzOp; rw [zm_152]; decide +kernel
theorem zo_152_316 : zzOp 152 316 = some (.iconst 1, 1) := by unfold zzOp; rw [zm_152]; decide +kernel
theorem zo_152_317 : zzOp 152 317 = some (.iadd, 1) := by unfold zzOp; rw [zm_152]; decide +kernel
theorem zo_152_318 : zzOp 152 318 = some (.putfield 157, 3) := by unfold zzOp; rw [zm_152]; decide +kernel
theorem zo_152_321 : zzOp 152 321 = some (.return_, 1) := by unfold zzOp; rw [zm_152]; decide +kernel
theorem zf_152_151 : zzGet zzFL (zzM 152).2.2.2.2.1 151 = some (7, 22) := by rw [zm_152]; decide +kernel
theorem zf_152_157 : zzGet zzFL (zzM 152).2.2.2.2.1 157 = some (7, 23) := by rw [zm_152]; decide +kernel
theorem zf_152_163 : zzGet zzFL (zzM 152).2.2.2.2.1 163 = some (7, 25) := by rw [zm_152]; decide +kernel
theorem zf_152_166 : zzGet zzFL (zzM 152).2.2.2.2.1 166 = some (7, 24) := by rw [zm_152]; decide +kernel
theorem zf_152_177 : zzGet zzFL (zzM 152).2.2.2.2.1 177 = some (7, 26) := by rw [zm_152]; decide +kernel
theorem zl_152_88 : zzGet zzML (zzM 152).2.2.2.2.1 88 = some (0, 136) := by rw [zm_152]; decide +kernel
theorem zl_152_160 : zzGet zzML (zzM 152).2.2.2.2.1 160 = some (2, 151) := by rw [zm_152]; decide +kernel
theorem zc_152_169 : zzGet zzKL (zzM 152).2.2.2.2.1 169 = some (97) := by rw [zm_152]; decide +kernel
theorem zc_152_171 : zzGet zzKL (zzM 152).2.2.2.2.1 171 = some (122) := by rw [zm_152]; decide +kernel
theorem zc_152_173 : zzGet zzKL (zzM 152).2.2.2.2.1 173 = some (48) := by rw [zm_152]; decide +kernel
theorem zc_152_175 : zzGet zzKL (zzM 152).2.2.2.2.1 175 = some (57) := by rw [zm_152]; decide +kernel
theorem zc_152_181 : zzGet zzKL (zzM 152).2.2.2.2.1 181 = some (10) := by rw [zm_152]; decide +kernel
