/-! what stands at each place (written by wip/whole/gen2.py) -/
theorem zm_197 : zzM 197 = (yX7_seatsBy, cX7_seatsBy, 6, (some .int), 7, 3, 1, zzc_197) := rfl
theorem zr_197 : (zzM 197).2.2.2.1 = (some .int) := by rw [zm_197]
theorem zo_197_0 : zzOp 197 0 = some (.aload_n 0, 1) := by unfold zzOp; rw [zm_197]; decide +kernel
theorem zo_197_1 : zzOp 197 1 = some (.getfield 35, 3) := by unfold zzOp; rw [zm_197]; decide +kernel
theorem zo_197_4 : zzOp 197 4 = some (.iload_n 2, 1) := by unfold zzOp; rw [zm_197]; decide +kernel
theorem zo_197_5 : zzOp 197 5 = some (.iaload, 1) := by unfold zzOp; rw [zm_197]; decide +kernel
theorem zo_197_6 : zzOp 197 6 = some (.istore_n 3, 1) := by unfold zzOp; rw [zm_197]; decide +kernel
theorem zo_197_7 : zzOp 197 7 = some (.iconst 0, 1) := by unfold zzOp; rw [zm_197]; decide +kernel
theorem zo_197_8 : zzOp 197 8 = some (.istore 4, 2) := by unfold zzOp; rw [zm_197]; decide +kernel
theorem zo_197_10 : zzOp 197 10 = some (.iconst 0, 1) := by unfold zzOp; rw [zm_197]; decide +kernel
theorem zo_197_11 : zzOp 197 11 = some (.istore 5, 2) := by unfold zzOp; rw [zm_197]; decide +kernel
theorem zo_197_13 : zzOp 197 13 = some (.iload 5, 2) := by unfold zzOp; rw [zm_197]; decide +kernel
theorem zo_197_15 : zzOp 197 15 = some (.bipush 24, 2) := by unfold zzOp; rw [zm_197]; decide +kernel
theorem zo_197_17 : zzOp 197 17 = some (.if_icmp .ge 60, 3) := by unfold zzOp; rw [zm_197]; decide +kernel
theorem zo_197_20 : zzOp 197 20 = some (.aload_n 0, 1) := by unfold zzOp; rw [zm_197]; decide +kernel
theorem zo_197_21 : zzOp 197 21 = some (.getfield 38, 3) := by unfold zzOp; rw [zm_197]; decide +kernel
theorem zo_197_24 : zzOp 197 24 = some (.iload 5, 2) := by unfold zzOp; rw [zm_197]; decide +kernel
theorem zo_197_26 : zzOp 197 26 = some (.iaload, 1) := by unfold zzOp; rw [zm_197]; decide +kernel
theorem zo_197_27 : zzOp 197 27 = some (.iconst (-1), 1) := by unfold zzOp; rw [zm_197]; decide +kernel
theorem zo_197_28 : zzOp 197 28 = some (.if_icmp .eq 9, 3) := by unfold zzOp; rw [zm_197]; decide +kernel
theorem zo_197_31 : zzOp 197 31 = some (.iload 5, 2) := by unfold zzOp; rw [zm_197]; decide +kernel
theorem zo_197_33 : zzOp 197 33 = some (.iload_n 3, 1) := by unfold zzOp; rw [zm_197]; decide +kernel
theorem zo_197_34 : zzOp 197 34 = some (.if_icmp .ne 37, 3) := by unfold zzOp; rw [zm_197]; decide +kernel
theorem zo_197_37 : zzOp 197 37 = some (.aload_n 0, 1) := by unfold zzOp; rw [zm_197]; decide +kernel
theorem zo_197_38 : zzOp 197 38 = some (.iload_n 2, 1) := by unfold zzOp; rw [zm_197]; decide +kernel
theorem zo_197_39 : zzOp 197 39 = some (.iload 5, 2) := by unfold zzOp; rw [zm_197]; decide +kernel
theorem zo_197_41 : zzOp 197 41 = some (.invokevirtual 129, 3) := by unfold zzOp; rw [zm_197]; decide +kernel
theorem zo_197_44 : zzOp 197 44 = some (.iload 4, 2) := by unfold zzOp; rw [zm_197]; decide +kernel
theorem zo_197_46 : zzOp 197 46 = some (.aload_n 0, 1) := by unfold zzOp; rw [zm_197]; decide +kernel
theorem zo_197_47 : zzOp 197 47 = some (.iload_n 1, 1) := by unfold zzOp; rw [zm_197]; decide +kernel
theorem zo_197_48 : zzOp 197 48 = some (.invokevirtual 346, 3) := by unfold zzOp; rw [zm_197]; decide +kernel
theorem zo_197_51 : zzOp 197 51 = some (.ifCond .ne 7, 3) := by unfold zzOp; rw [zm_197]; decide +kernel
theorem zo_197_54 : zzOp 197 54 = some (.iconst 1, 1) := by unfold zzOp; rw [zm_197]; decide +kernel
theorem zo_197_55 : zzOp 197 55 = some (.goto 4, 3) := by unfold zzOp; rw [zm_197]; decide +kernel
theorem zo_197_58 : zzOp 197 58 = some (.iconst 0, 1) := by unfold zzOp; rw [zm_197]; decide +kernel
theorem zo_197_59 : zzOp 197 59 = some (.iload 5, 2) := by unfold zzOp; rw [zm_197]; decide +kernel
theorem zo_197_61 : zzOp 197 61 = some (.ishl, 1) := by unfold zzOp; rw [zm_197]; decide +kernel
theorem zo_197_62 : zzOp 197 62 = some (.ior, 1) := by unfold zzOp; rw [zm_197]; decide +kernel
theorem zo_197_63 : zzOp 197 63 = some (.istore 4, 2) := by unfold zzOp; rw [zm_197]; decide +kernel
theorem zo_197_65 : zzOp 197 65 = some (.aload_n 0, 1) := by unfold zzOp; rw [zm_197]; decide +kernel
theorem zo_197_66 : zzOp 197 66 = some (.iload_n 2, 1) := by unfold zzOp; rw [zm_197]; decide +kernel
theorem zo_197_67 : zzOp 197 67 = some (.iload_n 3, 1) := by unfold zzOp; rw [zm_197]; decide +kernel
theorem zo_197_68 : zzOp 197 68 = some (.invokevirtual 129, 3) := by unfold zzOp; rw [zm_197]; decide +kernel
theorem zo_197_71 : zzOp 197 71 = some (.iinc 5 1, 3) := by unfold zzOp; rw [zm_197]; decide +kernel
theorem zo_197_74 : zzOp 197 74 = some (.goto (-61), 3) := by unfold zzOp; rw [zm_197]; decide +kernel
theorem zo_197_77 : zzOp 197 77 = some (.iload 4, 2) := by unfold zzOp; rw [zm_197]; decide +kernel
theorem zo_197_79 : zzOp 197 79 = some (.ireturn, 1) := by unfold zzOp; rw [zm_197]; decide +kernel
theorem zf_197_35 : zzGet zzFL (zzM 197).2.2.2.2.1 35 = some (7, 12) := by rw [zm_197]; decide +kernel
theorem zf_197_38 : zzGet zzFL (zzM 197).2.2.2.2.1 38 = some (7, 13) := by rw [zm_197]; decide +kernel
theorem zl_197_129 : zzGet zzML (zzM 197).2.2.2.2.1 129 = some (2, 146) := by rw [zm_197]; decide +kernel
theorem zl_197_346 : zzGet zzML (zzM 197).2.2.2.2.1 346 = some (2, 196) := by rw [zm_197]; decide +kernel
theorem zm_198 : zzM 198 = (yX7_tells, cX7_tells, 12, (some .int), 7, 3, 1, zzc_198) := rfl
theorem zr_198 : (zzM 198).2.2.2.1 = (some .int) := by rw [zm_198]
theorem zo_198_0 : zzOp 198 0 = some (.iload_n 2, 1) := by unfold zzOp; rw [zm_198]; decide +kernel
theorem zo_198_1 : zzOp 198 1 = some (.i2l, 1) := by unfold zzOp; rw [zm_198]; decide +kernel
theorem zo_198_2 : zzOp 198 2 = some (.ldc2_w 181, 3) := by unfold zzOp; rw [zm_198]; decide +kernel
theorem zo_198_5 : zzOp 198 5 = some (.ldc2_w 349, 3) := by unfold zzOp; rw [zm_198]; decide +kernel
theorem zo_198_8 : zzOp 198 8 = some (.invokestatic 88, 3) := by unfold zzOp; rw [zm_198]; decide +kernel
theorem zo_198_11 : zzOp 198 11 = some (.ifCond .eq 18, 3) := by unfold zzOp; rw [zm_198]; decide +kernel
theorem zo_198_14 : zzOp 198 14 = some (.aload_n 0, 1) := by unfold zzOp; rw [zm_198]; decide +kernel
theorem zo_198_15 : zzOp 198 15 = some (.iload_n 2, 1) := by unfold zzOp; rw [zm_198]; decide +kernel
theorem zo_198_16 : zzOp 198 16 = some (.bipush 10, 2) := by unfold zzOp; rw [zm_198]; decide +kernel
theorem zo_198_18 : zzOp 198 18 = some (.irem, 1) := by unfold zzOp; rw [zm_198]; decide +kernel
theorem zo_198_19 : zzOp 198 19 = some (.invokevirtual 94, 3) := by unfold zzOp; rw [zm_198]; decide +kernel
theorem zo_198_22 : zzOp 198 22 = some (.ifCond .eq 7, 3) := by unfold zzOp; rw [zm_198]; decide +kernel
theorem zo_198_25 : zzOp 198 25 = some (.iconst 1, 1) := by unfold zzOp; rw [zm_198]; decide +kernel
theorem zo_198_26 : zzOp 198 26 = some (.goto 4, 3) := by unfold zzOp; rw [zm_198]; decide +kernel
theorem zo_198_29 : zzOp 198 29 = some (.iconst 0, 1) := by unfold zzOp; rw [zm_198]; decide +kernel
theorem zo_198_30 : zzOp 198 30 = some (.istore_n 3, 1) := by unfold zzOp; rw [zm_198]; decide +kernel
theorem zo_198_31 : zzOp 198 31 = some (.iload_n 1, 1) := by unfold zzOp; rw [zm_198]; decide +kernel
theorem zo_198_32 : zzOp 198 32 = some (.invokestatic 334, 3) := by unfold zzOp; rw [zm_198]; decide +kernel
theorem zo_198_35 : zzOp 198 35 = some (.ifCond .eq 19, 3) := by unfold zzOp; rw [zm_198]; decide +kernel
theorem zo_198_38 : zzOp 198 38 = some (.iload_n 2, 1) := by unfold zzOp; rw [zm_198]; decide +kernel
theorem zo_198_39 : zzOp 198 39 = some (.i2l, 1) := by unfold zzOp; rw [zm_198]; decide +kernel
theorem zo_198_40 : zzOp 198 40 = some (.lconst 0, 1) := by unfold zzOp; rw [zm_198]; decide +kernel
theorem zo_198_41 : zzOp 198 41 = some (.ldc2_w 104, 3) := by unfold zzOp; rw [zm_198]; decide +kernel
theorem zo_198_44 : zzOp 198 44 = some (.invokestatic 88, 3) := by unfold zzOp; rw [zm_198]; decide +kernel
theorem zo_198_47 : zzOp 198 47 = some (.ifCond .ne 10, 3) := by unfold zzOp; rw [zm_198]; decide +kernel
theorem zo_198_50 : zzOp 198 50 = some (.iload_n 3, 1) := by unfold zzOp; rw [zm_198]; decide +kernel
theorem zo_198_51 : zzOp 198 51 = some (.ifCond .ne 6, 3) := by unfold zzOp; rw [zm_198]; decide +kernel
theorem zo_198_54 : zzOp 198 54 = some (.bipush (-2), 2) := by unfold zzOp; rw [zm_198]; decide +kernel
theorem zo_198_56 : zzOp 198 56 = some (.ireturn, 1) := by unfold zzOp; rw [zm_198]; decide +kernel
theorem zo_198_57 : zzOp 198 57 = some (.aload_n 0, 1) := by unfold zzOp; rw [zm_198]; decide +kernel
theorem zo_198_58 : zzOp 198 58 = some (.getfield 65, 3) := by unfold zzOp; rw [zm_198]; decide +kernel
theorem zo_198_61 : zzOp 198 61 = some (.iload_n 1, 1) := by unfold zzOp; rw [zm_198]; decide +kernel
theorem zo_198_62 : zzOp 198 62 = some (.baload, 1) := by unfold zzOp; rw [zm_198]; decide +kernel
theorem zo_198_63 : zzOp 198 63 = some (.ifCond .ne 6, 3) := by unfold zzOp; rw [zm_198]; decide +kernel
theorem zo_198_66 : zzOp 198 66 = some (.bipush (-11), 2) := by unfold zzOp; rw [zm_198]; decide +kernel
theorem zo_198_68 : zzOp 198 68 = some (.ireturn, 1) := by unfold zzOp; rw [zm_198]; decide +kernel
theorem zo_198_69 : zzOp 198 69 = some (.aload_n 0, 1) := by unfold zzOp; rw [zm_198]; decide +kernel
theorem zo_198_70 : zzOp 198 70 = some (.getfield 72, 3) := by unfold zzOp; rw [zm_198]; decide +kernel
theorem zo_198_73 : zzOp 198 73 = some (.iload_n 1, 1) := by unfold zzOp; rw [zm_198]; decide +kernel
theorem zo_198_74 : zzOp 198 74 = some (.iaload, 1) := by unfold zzOp; rw [zm_198]; decide +kernel
theorem zo_198_75 : zzOp 198 75 = some (.aload_n 0, 1) := by unfold zzOp; rw [zm_198]; decide +kernel
theorem zo_198_76 : zzOp 198 76 = some (.getfield 85, 3) := by unfold zzOp; rw [zm_198]; decide +kernel
theorem zo_198_79 : zzOp 198 79 = some (.if_icmp .eq 6, 3) := by unfold zzOp; rw [zm_198]; decide +kernel
theorem zo_198_82 : zzOp 198 82 = some (.bipush (-2), 2) := by unfold zzOp; rw [zm_198]; decide +kernel
theorem zo_198_84 : zzOp 198 84 = some (.ireturn, 1) := by unfold zzOp; rw [zm_198]; decide +kernel
theorem zo_198_85 : zzOp 198 85 = some (.iload_n 2, 1) := by unfold zzOp; rw [zm_198]; decide +kernel
theorem zo_198_86 : zzOp 198 86 = some (.ifCond .ne 9, 3) := by unfold zzOp; rw [zm_198]; decide +kernel
theorem zo_198_89 : zzOp 198 89 = some (.aload_n 0, 1) := by unfold zzOp; rw [zm_198]; decide +kernel
theorem zo_198_90 : zzOp 198 90 = some (.iload_n 1, 1) := by unfold zzOp; rw [zm_198]; decide +kernel
theorem zo_198_91 : zzOp 198 91 = some (.invokevirtual 346, 3) := by unfold zzOp; rw [zm_198]; decide +kernel
theorem zo_198_94 : zzOp 198 94 = some (.ireturn, 1) := by unfold zzOp; rw [zm_198]; decide +kernel
theorem zo_198_95 : zzOp 198 95 = some (.iload_n 2, 1) := by unfold zzOp; rw [zm_198]; decide +kernel
theorem zo_198_96 : zzOp 198 96 = some (.bipush 29, 2) := by unfold zzOp; rw [zm_198]; decide +kernel
theorem zo_198_98 : zzOp 198 98 = some (.if_icmp .le 13, 3) := by unfold zzOp; rw [zm_198]; decide +kernel
theorem zo_198_101 : zzOp 198 101 = some (.aload_n 0, 1) := by unfold zzOp; rw [zm_198]; decide +kernel
theorem zo_198_102 : zzOp 198 102 = some (.iload_n 1, 1) := by unfold zzOp; rw [zm_198]; decide +kernel
theorem zo_198_103 : zzOp 198 103 = some (.iload_n 2, 1) := by unfold zzOp; rw [zm_198]; decide +kernel
theorem zo_198_104 : zzOp 198 104 = some (.bipush 30, 2) := by unfold zzOp; rw [zm_198]; decide +kernel
theorem zo_198_106 : zzOp 198 106 = some (.isub, 1) := by unfold zzOp; rw [zm_198]; decide +kernel
theorem zo_198_107 : zzOp 198 107 = some (.invokevirtual 351, 3) := by unfold zzOp; rw [zm_198]; decide +kernel
theorem zo_198_110 : zzOp 198 110 = some (.ireturn, 1) := by unfold zzOp; rw [zm_198]; decide +kernel
theorem zo_198_111 : zzOp 198 111 = some (.iload_n 2, 1) := by unfold zzOp; rw [zm_198]; decide +kernel
theorem zo_198_112 : zzOp 198 112 = some (.bipush 10, 2) := by unfold zzOp; rw [zm_198]; decide +kernel
theorem zo_198_114 : zzOp 198 114 = some (.irem, 1) := by unfold zzOp; rw [zm_198]; decide +kernel
theorem zo_198_115 : zzOp 198 115 = some (.istore 4, 2) := by unfold zzOp; rw [zm_198]; decide +kernel
theorem zo_198_117 : zzOp 198 117 = some (.iload_n 2, 1) := by unfold zzOp; rw [zm_198]; decide +kernel
theorem zo_198_118 : zzOp 198 118 = some (.iconst 1, 1) := by unfold zzOp; rw [zm_198]; decide +kernel
theorem zo_198_119 : zzOp 198 119 = some (.if_icmp .ne 7, 3) := by unfold zzOp; rw [zm_198]; decide +kernel
theorem zo_198_122 : zzOp 198 122 = some (.iconst 5, 1) := by unfold zzOp; rw [zm_198]; decide +kernel
theorem zo_198_123 : zzOp 198 123 = some (.goto 23, 3) := by unfold zzOp; rw [zm_198]; decide +kernel
theorem zo_198_126 : zzOp 198 126 = some (.iload_n 2, 1) := by unfold zzOp; rw [zm_198]; decide +kernel
theorem zo_198_127 : zzOp 198 127 = some (.iconst 4, 1) := by unfold zzOp; rw [zm_198]; decide +kernel
theorem zo_198_128 : zzOp 198 128 = some (.if_icmp .ge 7, 3) := by unfold zzOp; rw [zm_198]; decide +kernel
theorem zo_198_131 : zzOp 198 131 = some (.iconst 0, 1) := by unfold zzOp; rw [zm_198]; decide +kernel
theorem zo_198_132 : zzOp 198 132 = some (.goto 14, 3) := by unfold zzOp; rw [zm_198]; decide +kernel
theorem zo_198_135 : zzOp 198 135 = some (.iload_n 2, 1) := by unfold zzOp; rw [zm_198]; decide +kernel
theorem zo_198_136 : zzOp 198 136 = some (.bipush 20, 2) := by unfold zzOp; rw [zm_198]; decide +kernel
theorem zo_198_138 : zzOp 198 138 = some (.if_icmp .ge 7, 3) := by unfold zzOp; rw [zm_198]; decide +kernel
theorem zo_198_141 : zzOp 198 141 = some (.iconst 4, 1) := by unfold zzOp; rw [zm_198]; decide +kernel
theorem zo_198_142 : zzOp 198 142 = some (.goto 4, 3) := by unfold zzOp; rw [zm_198]; decide +kernel
theorem zo_198_145 : zzOp 198 145 = some (.iconst 2, 1) := by unfold zzOp; rw [zm_198]; decide +kernel
theorem zo_198_146 : zzOp 198 146 = some (.istore 5, 2) := by unfold zzOp; rw [zm_198]; decide +kernel
theorem zo_198_148 : zzOp 198 148 = some (.iload 5, 2) := by unfold zzOp; rw [zm_198]; decide +kernel
theorem zo_198_150 : zzOp 198 150 = some (.iconst 5, 1) := by unfold zzOp; rw [zm_198]; decide +kernel
theorem zo_198_151 : zzOp 198 151 = some (.if_icmp .ne 10, 3) := by unfold zzOp; rw [zm_198]; decide +kernel
theorem zo_198_154 : zzOp 198 154 = some (.aload_n 0, 1) := by unfold zzOp; rw [zm_198]; decide +kernel
theorem zo_198_155 : zzOp 198 155 = some (.getfield 121, 3) := by unfold zzOp; rw [zm_198]; decide +kernel
theorem zo_198_158 : zzOp 198 158 = some (.goto 11, 3) := by unfold zzOp; rw [zm_198]; decide +kernel
theorem zo_198_161 : zzOp 198 161 = some (.aload_n 0, 1) := by unfold zzOp; rw [zm_198]; decide +kernel
theorem zo_198_162 : zzOp 198 162 = some (.iload 4, 2) := by unfold zzOp; rw [zm_198]; decide +kernel
theorem zo_198_164 : zzOp 198 164 = some (.iload 5, 2) := by unfold zzOp; rw [zm_198]; decide +kernel
theorem zo_198_166 : zzOp 198 166 = some (.invokevirtual 110, 3) := by unfold zzOp; rw [zm_198]; decide +kernel
theorem zo_198_169 : zzOp 198 169 = some (.istore 6, 2) := by unfold zzOp; rw [zm_198]; decide +kernel
theorem zo_198_171 : zzOp 198 171 = some (.iload 5, 2) := by unfold zzOp; rw [zm_198]; decide +kernel
theorem zo_198_173 : zzOp 198 173 = some (.iconst 5, 1) := by unfold zzOp; rw [zm_198]; decide +kernel
theorem zo_198_174 : zzOp 198 174 = some (.if_icmp .ne 12, 3) := by unfold zzOp; rw [zm_198]; decide +kernel
theorem zo_198_177 : zzOp 198 177 = some (.aload_n 0, 1) := by unfold zzOp; rw [zm_198]; decide +kernel
theorem zo_198_178 : zzOp 198 178 = some (.getfield 82, 3) := by unfold zzOp; rw [zm_198]; decide +kernel
theorem zo_198_181 : zzOp 198 181 = some (.iconst 1, 1) := by unfold zzOp; rw [zm_198]; decide +kernel
theorem zo_198_182 : zzOp 198 182 = some (.isub, 1) := by unfold zzOp; rw [zm_198]; decide +kernel
theorem zo_198_183 : zzOp 198 183 = some (.goto 25, 3) := by unfold zzOp; rw [zm_198]; decide +kernel
theorem zo_198_186 : zzOp 198 186 = some (.iload 5, 2) := by unfold zzOp; rw [zm_198]; decide +kernel
theorem zo_198_188 : zzOp 198 188 = some (.ifCond .ne 8, 3) := by unfold zzOp; rw [zm_198]; decide +kernel
theorem zo_198_191 : zzOp 198 191 = some (.bipush 99, 2) := by unfold zzOp; rw [zm_198]; decide +kernel
theorem zo_198_193 : zzOp 198 193 = some (.goto 15, 3) := by unfold zzOp; rw [zm_198]; decide +kernel
theorem zo_198_196 : zzOp 198 196 = some (.iload 5, 2) := by unfold zzOp; rw [zm_198]; decide +kernel
theorem zo_198_198 : zzOp 198 198 = some (.iconst 4, 1) := by unfold zzOp; rw [zm_198]; decide +kernel
theorem zo_198_199 : zzOp 198 199 = some (.if_icmp .ne 7, 3) := by unfold zzOp; rw [zm_198]; decide +kernel
theorem zo_198_202 : zzOp 198 202 = some (.iconst 5, 1) := by unfold zzOp; rw [zm_198]; decide +kernel
theorem zo_198_203 : zzOp 198 203 = some (.goto 5, 3) := by unfold zzOp; rw [zm_198]; decide +kernel
theorem zo_198_206 : zzOp 198 206 = some (.bipush 9, 2) := by unfold zzOp; rw [zm_198]; decide +kernel
theorem zo_198_208 : zzOp 198 208 = some (.istore 7, 2) := by unfold zzOp; rw [zm_198]; decide +kernel
theorem zo_198_210 : zzOp 198 210 = some (.iconst 0, 1) := by unfold zzOp; rw [zm_198]; decide +kernel
theorem zo_198_211 : zzOp 198 211 = some (.istore 8, 2) := by unfold zzOp; rw [zm_198]; decide +kernel
theorem zo_198_213 : zzOp 198 213 = some (.iconst 0, 1) := by unfold zzOp; rw [zm_198]; decide +kernel
theorem zo_198_214 : zzOp 198 214 = some (.istore 9, 2) := by unfold zzOp; rw [zm_198]; decide +kernel
theorem zo_198_216 : zzOp 198 216 = some (.iconst (-1), 1) := by unfold zzOp; rw [zm_198]; decide +kernel
theorem zo_198_217 : zzOp 198 217 = some (.istore 10, 2) := by unfold zzOp; rw [zm_198]; decide +kernel
theorem zo_198_219 : zzOp 198 219 = some (.iload 7, 2) := by unfold zzOp; rw [zm_198]; decide +kernel
theorem zo_198_221 : zzOp 198 221 = some (.istore 11, 2) := by unfold zzOp; rw [zm_198]; decide +kernel
theorem zo_198_223 : zzOp 198 223 = some (.iload 11, 2) := by unfold zzOp; rw [zm_198]; decide +kernel
theorem zo_198_225 : zzOp 198 225 = some (.ifCond .lt 52, 3) := by unfold zzOp; rw [zm_198]; decide +kernel
theorem zo_198_228 : zzOp 198 228 = some (.aload_n 0, 1) := by unfold zzOp; rw [zm_198]; decide +kernel
theorem zo_198_229 : zzOp 198 229 = some (.iload 5, 2) := by unfold zzOp; rw [zm_198]; decide +kernel
theorem zo_198_231 : zzOp 198 231 = some (.iload 4, 2) := by unfold zzOp; rw [zm_198]; decide +kernel
theorem zo_198_233 : zzOp 198 233 = some (.iload 11, 2) := by unfold zzOp; rw [zm_198]; decide +kernel
theorem zo_198_235 : zzOp 198 235 = some (.invokevirtual 114, 3) := by unfold zzOp; rw [zm_198]; decide +kernel
theorem zo_198_238 : zzOp 198 238 = some (.aload_n 0, 1) := by unfold zzOp; rw [zm_198]; decide +kernel
theorem zo_198_239 : zzOp 198 239 = some (.iload_n 1, 1) := by unfold zzOp; rw [zm_198]; decide +kernel
theorem zo_198_240 : zzOp 198 240 = some (.invokevirtual 346, 3) := by unfold zzOp; rw [zm_198]; decide +kernel
theorem zo_198_243 : zzOp 198 243 = some (.ifCond .ne 28, 3) := by unfold zzOp; rw [zm_198]; decide +kernel
theorem zo_198_246 : zzOp 198 246 = some (.iload 8, 2) := by unfold zzOp; rw [zm_198]; decide +kernel
theorem zo_198_248 : zzOp 198 248 = some (.iload 5, 2) := by unfold zzOp; rw [zm_198]; decide +kernel
theorem zo_198_250 : zzOp 198 250 = some (.ifCond .ne 7, 3) := by unfold zzOp; rw [zm_198]; decide +kernel
theorem zo_198_253 : zzOp 198 253 = some (.iconst 0, 1) := by unfold zzOp; rw [zm_198]; decide +kernel
theorem zo_198_254 : zzOp 198 254 = some (.goto 7, 3) := by unfold zzOp; rw [zm_198]; decide +kernel
theorem zo_198_257 : zzOp 198 257 = some (.iconst 1, 1) := by unfold zzOp; rw [zm_198]; decide +kernel
theorem zo_198_258 : zzOp 198 258 = some (.iload 11, 2) := by unfold zzOp; rw [zm_198]; decide +kernel
theorem zo_198_260 : zzOp 198 260 = some (.ishl, 1) := by unfold zzOp; rw [zm_198]; decide +kernel
theorem zo_198_261 : zzOp 198 261 = some (.ior, 1) := by unfold zzOp; rw [zm_198]; decide +kernel
theorem zo_198_262 : zzOp 198 262 = some (.istore 8, 2) := by unfold zzOp; rw [zm_198]; decide +kernel
theorem zo_198_264 : zzOp 198 264 = some (.iinc 9 1, 3) := by unfold zzOp; rw [zm_198]; decide +kernel
theorem zo_198_267 : zzOp 198 267 = some (.iload 11, 2) := by unfold zzOp; rw [zm_198]; decide +kernel
theorem zo_198_269 : zzOp 198 269 = some (.istore 10, 2) := by unfold zzOp; rw [zm_198]; decide +kernel
theorem zo_198_271 : zzOp 198 271 = some (.iinc 11 (-1), 3) := by unfold zzOp; rw [zm_198]; decide +kernel
theorem zo_198_274 : zzOp 198 274 = some (.goto (-51), 3) := by unfold zzOp; rw [zm_198]; decide +kernel
theorem zo_198_277 : zzOp 198 277 = some (.aload_n 0, 1) := by unfold zzOp; rw [zm_198]; decide +kernel
theorem zo_198_278 : zzOp 198 278 = some (.iload 5, 2) := by unfold zzOp; rw [zm_198]; decide +kernel
theorem zo_198_280 : zzOp 198 280 = some (.iload 4, 2) := by unfold zzOp; rw [zm_198]; decide +kernel
theorem zo_198_282 : zzOp 198 282 = some (.iload 6, 2) := by unfold zzOp; rw [zm_198]; decide +kernel
theorem zo_198_284 : zzOp 198 284 = some (.invokevirtual 114, 3) := by unfold zzOp; rw [zm_198]; decide +kernel
theorem zo_198_287 : zzOp 198 287 = some (.iload_n 2, 1) := by unfold zzOp; rw [zm_198]; decide +kernel
theorem zo_198_288 : zzOp 198 288 = some (.iconst 2, 1) := by unfold zzOp; rw [zm_198]; decide +kernel
theorem zo_198_289 : zzOp 198 289 = some (.if_icmp .ne 8, 3) := by unfold zzOp; rw [zm_198]; decide +kernel
theorem zo_198_292 : zzOp 198 292 = some (.iload 9, 2) := by unfold zzOp; rw [zm_198]; decide +kernel
theorem zo_198_294 : zzOp 198 294 = some (.goto 15, 3) := by unfold zzOp; rw [zm_198]; decide +kernel
theorem zo_198_297 : zzOp 198 297 = some (.iload_n 2, 1) := by unfold zzOp; rw [zm_198]; decide +kernel
theorem zo_198_298 : zzOp 198 298 = some (.iconst 3, 1) := by unfold zzOp; rw [zm_198]; decide +kernel
theorem zo_198_299 : zzOp 198 299 = some (.if_icmp .ne 8, 3) := by unfold zzOp; rw [zm_198]; decide +kernel
theorem zo_198_302 : zzOp 198 302 = some (.iload 10, 2) := by unfold zzOp; rw [zm_198]; decide +kernel
theorem zo_198_304 : zzOp 198 304 = some (.goto 5, 3) := by unfold zzOp; rw [zm_198]; decide +kernel
theorem zo_198_307 : zzOp 198 307 = some (.iload 8, 2) := by unfold zzOp; rw [zm_198]; decide +kernel
theorem zo_198_309 : zzOp 198 309 = some (.ireturn, 1) := by unfold zzOp; rw [zm_198]; decide +kernel
theorem zf_198_65 : zzGet zzFL (zzM 198).2.2.2.2.1 65 = some (7, 48) := by rw [zm_198]; decide +kernel
theorem zf_198_72 : zzGet zzFL (zzM 198).2.2.2.2.1 72 = some (7, 50) := by rw [zm_198]; decide +kernel
theorem zf_198_82 : zzGet zzFL (zzM 198).2.2.2.2.1 82 = some (7, 3) := by rw [zm_198]; decide +kernel
theorem zf_198_85 : zzGet zzFL (zzM 198).2.2.2.2.1 85 = some (7, 14) := by rw [zm_198]; decide +kernel
theorem zf_198_121 : zzGet zzFL (zzM 198).2.2.2.2.1 121 = some (7, 4) := by rw [zm_198]; decide +kernel
theorem zl_198_88 : zzGet zzML (zzM 198).2.2.2.2.1 88 = some (0, 136) := by rw [zm_198]; decide +kernel
theorem zl_198_94 : zzGet zzML (zzM 198).2.2.2.2.1 94 = some (2, 140) := by rw [zm_198]; decide +kernel
theorem zl_198_110 : zzGet zzML (zzM 198).2.2.2.2.1 110 = some (2, 148) := by rw [zm_198]; decide +kernel
theorem zl_198_114 : zzGet zzML (zzM 198).2.2.2.2.1 114 = some (2, 144) := by rw [zm_198]; decide +kernel
theorem zl_198_334 : zzGet zzML (zzM 198).2.2.2.2.1 334 = some (0, 206) := by rw [zm_198]; decide +kernel
theorem zl_198_346 : zzGet zzML (zzM 198).2.2.2.2.1 346 = some (2, 196) := by rw [zm_198]; decide +kernel
theorem zl_198_351 : zzGet zzML (zzM 198).2.2.2.2.1 351 = some (2, 197) := by rw [zm_198]; decide +kernel
theorem zc_198_104 : zzGet zzKL (zzM 198).2.2.2.2.1 104 = some (3) := by rw [zm_198]; decide +kernel
theorem zc_198_181 : zzGet zzKL (zzM 198).2.2.2.2.1 181 = some (10) := by rw [zm_198]; decide +kernel
theorem zc_198_349 : zzGet zzKL (zzM 198).2.2.2.2.1 349 = some (39) := by rw [zm_198]; decide +kernel
theorem zm_199 : zzM 199 = (yX7_film, cX7_film, 3, (some .int), 7, 2, 1, zzc_199) := rfl
theorem zr_199 : (zzM 199).2.2.2.1 = (some .int) := by rw [zm_199]
theorem zo_199_0 : zzOp 199 0 = some (.iload_n 1, 1) := by unfold zzOp; rw [zm_199]; decide +kernel
theorem zo_199_1 : zzOp 199 1 = some (.invokestatic 334, 3) := by unfold zzOp; rw [zm_199]; decide +kernel
theorem zo_199_4 : zzOp 199 4 = some (.ifCond .ne 6, 3) := by unfold zzOp; rw [zm_199]; decide +kernel
theorem zo_199_7 : zzOp 199 7 = some (.bipush (-2), 2) := by unfold zzOp; rw [zm_199]; decide +kernel
theorem zo_199_9 : zzOp 199 9 = some (.ireturn, 1) := by unfold zzOp; rw [zm_199]; decide +kernel
theorem zo_199_10 : zzOp 199 10 = some (.aload_n 0, 1) := by unfold zzOp; rw [zm_199]; decide +kernel
theorem zo_199_11 : zzOp 199 11 = some (.iload_n 1, 1) := by unfold zzOp; rw [zm_199]; decide +kernel
theorem zo_199_12 : zzOp 199 12 = some (.iconst 1, 1) := by unfold zzOp; rw [zm_199]; decide +kernel
theorem zo_199_13 : zzOp 199 13 = some (.aload_n 0, 1) := by unfold zzOp; rw [zm_199]; decide +kernel
theorem zo_199_14 : zzOp 199 14 = some (.getfield 85, 3) := by unfold zzOp; rw [zm_199]; decide +kernel
theorem zo_199_17 : zzOp 199 17 = some (.invokevirtual 354, 3) := by unfold zzOp; rw [zm_199]; decide +kernel
theorem zo_199_20 : zzOp 199 20 = some (.pop, 1) := by unfold zzOp; rw [zm_199]; decide +kernel
theorem zo_199_21 : zzOp 199 21 = some (.iconst 0, 1) := by unfold zzOp; rw [zm_199]; decide +kernel
theorem zo_199_22 : zzOp 199 22 = some (.istore_n 2, 1) := by unfold zzOp; rw [zm_199]; decide +kernel
theorem zo_199_23 : zzOp 199 23 = some (.iload_n 2, 1) := by unfold zzOp; rw [zm_199]; decide +kernel
theorem zo_199_24 : zzOp 199 24 = some (.aload_n 0, 1) := by unfold zzOp; rw [zm_199]; decide +kernel
theorem zo_199_25 : zzOp 199 25 = some (.getfield 85, 3) := by unfold zzOp; rw [zm_199]; decide +kernel
theorem zo_199_28 : zzOp 199 28 = some (.if_icmp .ge 25, 3) := by unfold zzOp; rw [zm_199]; decide +kernel
theorem zo_199_31 : zzOp 199 31 = some (.aload_n 0, 1) := by unfold zzOp; rw [zm_199]; decide +kernel
theorem zo_199_32 : zzOp 199 32 = some (.getfield 75, 3) := by unfold zzOp; rw [zm_199]; decide +kernel
theorem zo_199_35 : zzOp 199 35 = some (.bipush 40, 2) := by unfold zzOp; rw [zm_199]; decide +kernel
theorem zo_199_37 : zzOp 199 37 = some (.iload_n 1, 1) := by unfold zzOp; rw [zm_199]; decide +kernel
theorem zo_199_38 : zzOp 199 38 = some (.imul, 1) := by unfold zzOp; rw [zm_199]; decide +kernel
theorem zo_199_39 : zzOp 199 39 = some (.iload_n 2, 1) := by unfold zzOp; rw [zm_199]; decide +kernel
theorem zo_199_40 : zzOp 199 40 = some (.iadd, 1) := by unfold zzOp; rw [zm_199]; decide +kernel
theorem zo_199_41 : zzOp 199 41 = some (.aload_n 0, 1) := by unfold zzOp; rw [zm_199]; decide +kernel
theorem zo_199_42 : zzOp 199 42 = some (.iload_n 2, 1) := by unfold zzOp; rw [zm_199]; decide +kernel
theorem zo_199_43 : zzOp 199 43 = some (.invokevirtual 133, 3) := by unfold zzOp; rw [zm_199]; decide +kernel
theorem zo_199_46 : zzOp 199 46 = some (.iastore, 1) := by unfold zzOp; rw [zm_199]; decide +kernel
theorem zo_199_47 : zzOp 199 47 = some (.iinc 2 1, 3) := by unfold zzOp; rw [zm_199]; decide +kernel
theorem zo_199_50 : zzOp 199 50 = some (.goto (-27), 3) := by unfold zzOp; rw [zm_199]; decide +kernel
theorem zo_199_53 : zzOp 199 53 = some (.aload_n 0, 1) := by unfold zzOp; rw [zm_199]; decide +kernel
theorem zo_199_54 : zzOp 199 54 = some (.getfield 85, 3) := by unfold zzOp; rw [zm_199]; decide +kernel
theorem zo_199_57 : zzOp 199 57 = some (.ireturn, 1) := by unfold zzOp; rw [zm_199]; decide +kernel
theorem zf_199_75 : zzGet zzFL (zzM 199).2.2.2.2.1 75 = some (7, 51) := by rw [zm_199]; decide +kernel
theorem zf_199_85 : zzGet zzFL (zzM 199).2.2.2.2.1 85 = some (7, 14) := by rw [zm_199]; decide +kernel
theorem zl_199_133 : zzGet zzML (zzM 199).2.2.2.2.1 133 = some (2, 175) := by rw [zm_199]; decide +kernel
theorem zl_199_334 : zzGet zzML (zzM 199).2.2.2.2.1 334 = some (0, 206) := by rw [zm_199]; decide +kernel
theorem zl_199_354 : zzGet zzML (zzM 199).2.2.2.2.1 354 = some (2, 207) := by rw [zm_199]; decide +kernel
theorem zm_200 : zzM 200 = (yX7_dinBy, cX7_dinBy, 5, (some .int), 7, 2, 1, zzc_200) := rfl
theorem zr_200 : (zzM 200).2.2.2.1 = (some .int) := by rw [zm_200]
theorem zo_200_0 : zzOp 200 0 = some (.aload_n 0, 1) := by unfold zzOp; rw [zm_200]; decide +kernel
theorem zo_200_1 : zzOp 200 1 = some (.invokevirtual 340, 3) := by unfold zzOp; rw [zm_200]; decide +kernel
theorem zo_200_4 : zzOp 200 4 = some (.iconst 0, 1) := by unfold zzOp; rw [zm_200]; decide +kernel
theorem zo_200_5 : zzOp 200 5 = some (.istore_n 2, 1) := by unfold zzOp; rw [zm_200]; decide +kernel
theorem zo_200_6 : zzOp 200 6 = some (.iload_n 2, 1) := by unfold zzOp; rw [zm_200]; decide +kernel
theorem zo_200_7 : zzOp 200 7 = some (.aload_n 0, 1) := by unfold zzOp; rw [zm_200]; decide +kernel
theorem zo_200_8 : zzOp 200 8 = some (.getfield 85, 3) := by unfold zzOp; rw [zm_200]; decide +kernel
theorem zo_200_11 : zzOp 200 11 = some (.if_icmp .ge 15, 3) := by unfold zzOp; rw [zm_200]; decide +kernel
theorem zo_200_14 : zzOp 200 14 = some (.aload_n 0, 1) := by unfold zzOp; rw [zm_200]; decide +kernel
theorem zo_200_15 : zzOp 200 15 = some (.iload_n 2, 1) := by unfold zzOp; rw [zm_200]; decide +kernel
theorem zo_200_16 : zzOp 200 16 = some (.iconst (-1), 1) := by unfold zzOp; rw [zm_200]; decide +kernel
theorem zo_200_17 : zzOp 200 17 = some (.invokevirtual 129, 3) := by unfold zzOp; rw [zm_200]; decide +kernel
theorem zo_200_20 : zzOp 200 20 = some (.iinc 2 1, 3) := by unfold zzOp; rw [zm_200]; decide +kernel
theorem zo_200_23 : zzOp 200 23 = some (.goto (-17), 3) := by unfold zzOp; rw [zm_200]; decide +kernel
theorem zo_200_26 : zzOp 200 26 = some (.iload_n 1, 1) := by unfold zzOp; rw [zm_200]; decide +kernel
theorem zo_200_27 : zzOp 200 27 = some (.istore_n 2, 1) := by unfold zzOp; rw [zm_200]; decide +kernel
theorem zo_200_28 : zzOp 200 28 = some (.iconst 0, 1) := by unfold zzOp; rw [zm_200]; decide +kernel
theorem zo_200_29 : zzOp 200 29 = some (.istore_n 3, 1) := by unfold zzOp; rw [zm_200]; decide +kernel
theorem zo_200_30 : zzOp 200 30 = some (.iload_n 3, 1) := by unfold zzOp; rw [zm_200]; decide +kernel
theorem zo_200_31 : zzOp 200 31 = some (.aload_n 0, 1) := by unfold zzOp; rw [zm_200]; decide +kernel
theorem zo_200_32 : zzOp 200 32 = some (.getfield 85, 3) := by unfold zzOp; rw [zm_200]; decide +kernel
theorem zo_200_35 : zzOp 200 35 = some (.if_icmp .ge 58, 3) := by unfold zzOp; rw [zm_200]; decide +kernel
theorem zo_200_38 : zzOp 200 38 = some (.iload_n 2, 1) := by unfold zzOp; rw [zm_200]; decide +kernel
theorem zo_200_39 : zzOp 200 39 = some (.ldc_w 357, 3) := by unfold zzOp; rw [zm_200]; decide +kernel
theorem zo_200_42 : zzOp 200 42 = some (.imul, 1) := by unfold zzOp; rw [zm_200]; decide +kernel
theorem zo_200_43 : zzOp 200 43 = some (.sipush 12345, 3) := by unfold zzOp; rw [zm_200]; decide +kernel
theorem zo_200_46 : zzOp 200 46 = some (.iadd, 1) := by unfold zzOp; rw [zm_200]; decide +kernel
theorem zo_200_47 : zzOp 200 47 = some (.istore_n 2, 1) := by unfold zzOp; rw [zm_200]; decide +kernel
theorem zo_200_48 : zzOp 200 48 = some (.iload_n 2, 1) := by unfold zzOp; rw [zm_200]; decide +kernel
theorem zo_200_49 : zzOp 200 49 = some (.bipush 9, 2) := by unfold zzOp; rw [zm_200]; decide +kernel
theorem zo_200_51 : zzOp 200 51 = some (.iushr, 1) := by unfold zzOp; rw [zm_200]; decide +kernel
theorem zo_200_52 : zzOp 200 52 = some (.bipush 24, 2) := by unfold zzOp; rw [zm_200]; decide +kernel
theorem zo_200_54 : zzOp 200 54 = some (.irem, 1) := by unfold zzOp; rw [zm_200]; decide +kernel
theorem zo_200_55 : zzOp 200 55 = some (.istore 4, 2) := by unfold zzOp; rw [zm_200]; decide +kernel
theorem zo_200_57 : zzOp 200 57 = some (.aload_n 0, 1) := by unfold zzOp; rw [zm_200]; decide +kernel
theorem zo_200_58 : zzOp 200 58 = some (.getfield 38, 3) := by unfold zzOp; rw [zm_200]; decide +kernel
theorem zo_200_61 : zzOp 200 61 = some (.iload 4, 2) := by unfold zzOp; rw [zm_200]; decide +kernel
theorem zo_200_63 : zzOp 200 63 = some (.iaload, 1) := by unfold zzOp; rw [zm_200]; decide +kernel
theorem zo_200_64 : zzOp 200 64 = some (.iconst (-1), 1) := by unfold zzOp; rw [zm_200]; decide +kernel
theorem zo_200_65 : zzOp 200 65 = some (.if_icmp .eq 15, 3) := by unfold zzOp; rw [zm_200]; decide +kernel
theorem zo_200_68 : zzOp 200 68 = some (.iload 4, 2) := by unfold zzOp; rw [zm_200]; decide +kernel
theorem zo_200_70 : zzOp 200 70 = some (.iconst 1, 1) := by unfold zzOp; rw [zm_200]; decide +kernel
theorem zo_200_71 : zzOp 200 71 = some (.iadd, 1) := by unfold zzOp; rw [zm_200]; decide +kernel
theorem zo_200_72 : zzOp 200 72 = some (.bipush 24, 2) := by unfold zzOp; rw [zm_200]; decide +kernel
theorem zo_200_74 : zzOp 200 74 = some (.irem, 1) := by unfold zzOp; rw [zm_200]; decide +kernel
theorem zo_200_75 : zzOp 200 75 = some (.istore 4, 2) := by unfold zzOp; rw [zm_200]; decide +kernel
theorem zo_200_77 : zzOp 200 77 = some (.goto (-20), 3) := by unfold zzOp; rw [zm_200]; decide +kernel
theorem zo_200_80 : zzOp 200 80 = some (.aload_n 0, 1) := by unfold zzOp; rw [zm_200]; decide +kernel
theorem zo_200_81 : zzOp 200 81 = some (.iload_n 3, 1) := by unfold zzOp; rw [zm_200]; decide +kernel
theorem zo_200_82 : zzOp 200 82 = some (.iload 4, 2) := by unfold zzOp; rw [zm_200]; decide +kernel
theorem zo_200_84 : zzOp 200 84 = some (.invokevirtual 129, 3) := by unfold zzOp; rw [zm_200]; decide +kernel
theorem zo_200_87 : zzOp 200 87 = some (.iinc 3 1, 3) := by unfold zzOp; rw [zm_200]; decide +kernel
theorem zo_200_90 : zzOp 200 90 = some (.goto (-60), 3) := by unfold zzOp; rw [zm_200]; decide +kernel
theorem zo_200_93 : zzOp 200 93 = some (.aload_n 0, 1) := by unfold zzOp; rw [zm_200]; decide +kernel
theorem zo_200_94 : zzOp 200 94 = some (.invokevirtual 287, 3) := by unfold zzOp; rw [zm_200]; decide +kernel
theorem zo_200_97 : zzOp 200 97 = some (.istore_n 3, 1) := by unfold zzOp; rw [zm_200]; decide +kernel
theorem zo_200_98 : zzOp 200 98 = some (.aload_n 0, 1) := by unfold zzOp; rw [zm_200]; decide +kernel
theorem zo_200_99 : zzOp 200 99 = some (.invokevirtual 343, 3) := by unfold zzOp; rw [zm_200]; decide +kernel
theorem zo_200_102 : zzOp 200 102 = some (.iload_n 3, 1) := by unfold zzOp; rw [zm_200]; decide +kernel
theorem zo_200_103 : zzOp 200 103 = some (.ireturn, 1) := by unfold zzOp; rw [zm_200]; decide +kernel
theorem zf_200_38 : zzGet zzFL (zzM 200).2.2.2.2.1 38 = some (7, 13) := by rw [zm_200]; decide +kernel
theorem zf_200_85 : zzGet zzFL (zzM 200).2.2.2.2.1 85 = some (7, 14) := by rw [zm_200]; decide +kernel
theorem zl_200_129 : zzGet zzML (zzM 200).2.2.2.2.1 129 = some (2, 146) := by rw [zm_200]; decide +kernel
theorem zl_200_287 : zzGet zzML (zzM 200).2.2.2.2.1 287 = some (2, 178) := by rw [zm_200]; decide +kernel
theorem zl_200_340 : zzGet zzML (zzM 200).2.2.2.2.1 340 = some (2, 191) := by rw [zm_200]; decide +kernel
theorem zl_200_343 : zzGet zzML (zzM 200).2.2.2.2.1 343 = some (2, 192) := by rw [zm_200]; decide +kernel
theorem zc_200_357 : zzGet zzKI (zzM 200).2.2.2.2.1 357 = some (1103515245) := by rw [zm_200]; decide +kernel
theorem zc_200_357n : zzGet zzKS (zzM 200).2.2.2.2.1 357 = none := by rw [zm_200]; decide +kernel
theorem zm_201 : zzM 201 = (yX7_drawn, cX7_drawn, 2, (some .int), 7, 2, 1, zzc_201) := rfl
theorem zr_201 : (zzM 201).2.2.2.1 = (some .int) := by rw [zm_201]
theorem zo_201_0 : zzOp 201 0 = some (.aload_n 0, 1) := by unfold zzOp; rw [zm_201]; decide +kernel
theorem zo_201_1 : zzOp 201 1 = some (.iload_n 1, 1) := by unfold zzOp; rw [zm_201]; decide +kernel
theorem zo_201_2 : zzOp 201 2 = some (.invokevirtual 358, 3) := by unfold zzOp; rw [zm_201]; decide +kernel
theorem zo_201_5 : zzOp 201 5 = some (.ireturn, 1) := by unfold zzOp; rw [zm_201]; decide +kernel
theorem zl_201_358 : zzGet zzML (zzM 201).2.2.2.2.1 358 = some (2, 200) := by rw [zm_201]; decide +kernel
theorem zm_202 : zzM 202 = (yX7_chance, cX7_chance, 13, (some .long), 7, 4, 1, zzc_202) := rfl
theorem zr_202 : (zzM 202).2.2.2.1 = (some .long) := by rw [zm_202]
theorem zo_202_0 : zzOp 202 0 = some (.iload_n 2, 1) := by unfold zzOp; rw [zm_202]; decide +kernel
theorem zo_202_1 : zzOp 202 1 = some (.i2l, 1) := by unfold zzOp; rw [zm_202]; decide +kernel
theorem zo_202_2 : zzOp 202 2 = some (.lconst 1, 1) := by unfold zzOp; rw [zm_202]; decide +kernel
theorem zo_202_3 : zzOp 202 3 = some (.ldc2_w 361, 3) := by unfold zzOp; rw [zm_202]; decide +kernel
theorem zo_202_6 : zzOp 202 6 = some (.invokestatic 88, 3) := by unfold zzOp; rw [zm_202]; decide +kernel
theorem zo_202_9 : zzOp 202 9 = some (.ifCond .eq 13, 3) := by unfold zzOp; rw [zm_202]; decide +kernel
theorem zo_202_12 : zzOp 202 12 = some (.iload_n 3, 1) := by unfold zzOp; rw [zm_202]; decide +kernel
theorem zo_202_13 : zzOp 202 13 = some (.i2l, 1) := by unfold zzOp; rw [zm_202]; decide +kernel
theorem zo_202_14 : zzOp 202 14 = some (.lconst 0, 1) := by unfold zzOp; rw [zm_202]; decide +kernel
theorem zo_202_15 : zzOp 202 15 = some (.lconst 1, 1) := by unfold zzOp; rw [zm_202]; decide +kernel
theorem zo_202_16 : zzOp 202 16 = some (.invokestatic 88, 3) := by unfold zzOp; rw [zm_202]; decide +kernel
theorem zo_202_19 : zzOp 202 19 = some (.ifCond .ne 7, 3) := by unfold zzOp; rw [zm_202]; decide +kernel
theorem zo_202_22 : zzOp 202 22 = some (.ldc2_w 363, 3) := by unfold zzOp; rw [zm_202]; decide +kernel
theorem zo_202_25 : zzOp 202 25 = some (.lreturn, 1) := by unfold zzOp; rw [zm_202]; decide +kernel
theorem zo_202_26 : zzOp 202 26 = some (.aload_n 0, 1) := by unfold zzOp; rw [zm_202]; decide +kernel
theorem zo_202_27 : zzOp 202 27 = some (.invokevirtual 287, 3) := by unfold zzOp; rw [zm_202]; decide +kernel
theorem zo_202_30 : zzOp 202 30 = some (.istore 4, 2) := by unfold zzOp; rw [zm_202]; decide +kernel
theorem zo_202_32 : zzOp 202 32 = some (.lconst 0, 1) := by unfold zzOp; rw [zm_202]; decide +kernel
theorem zo_202_33 : zzOp 202 33 = some (.lstore 5, 2) := by unfold zzOp; rw [zm_202]; decide +kernel
theorem zo_202_35 : zzOp 202 35 = some (.iconst 0, 1) := by unfold zzOp; rw [zm_202]; decide +kernel
theorem zo_202_36 : zzOp 202 36 = some (.istore 7, 2) := by unfold zzOp; rw [zm_202]; decide +kernel
theorem zo_202_38 : zzOp 202 38 = some (.iload 7, 2) := by unfold zzOp; rw [zm_202]; decide +kernel
theorem zo_202_40 : zzOp 202 40 = some (.iload_n 2, 1) := by unfold zzOp; rw [zm_202]; decide +kernel
theorem zo_202_41 : zzOp 202 41 = some (.if_icmp .ge 32, 3) := by unfold zzOp; rw [zm_202]; decide +kernel
theorem zo_202_44 : zzOp 202 44 = some (.lload 5, 2) := by unfold zzOp; rw [zm_202]; decide +kernel
theorem zo_202_46 : zzOp 202 46 = some (.aload_n 0, 1) := by unfold zzOp; rw [zm_202]; decide +kernel
theorem zo_202_47 : zzOp 202 47 = some (.iload_n 1, 1) := by unfold zzOp; rw [zm_202]; decide +kernel
theorem zo_202_48 : zzOp 202 48 = some (.iload 7, 2) := by unfold zzOp; rw [zm_202]; decide +kernel
theorem zo_202_50 : zzOp 202 50 = some (.iadd, 1) := by unfold zzOp; rw [zm_202]; decide +kernel
theorem zo_202_51 : zzOp 202 51 = some (.invokevirtual 358, 3) := by unfold zzOp; rw [zm_202]; decide +kernel
theorem zo_202_54 : zzOp 202 54 = some (.iload 4, 2) := by unfold zzOp; rw [zm_202]; decide +kernel
theorem zo_202_56 : zzOp 202 56 = some (.if_icmp .gt 7, 3) := by unfold zzOp; rw [zm_202]; decide +kernel
theorem zo_202_59 : zzOp 202 59 = some (.lconst 1, 1) := by unfold zzOp; rw [zm_202]; decide +kernel
theorem zo_202_60 : zzOp 202 60 = some (.goto 4, 3) := by unfold zzOp; rw [zm_202]; decide +kernel
theorem zo_202_63 : zzOp 202 63 = some (.lconst 0, 1) := by unfold zzOp; rw [zm_202]; decide +kernel
theorem zo_202_64 : zzOp 202 64 = some (.ladd, 1) := by unfold zzOp; rw [zm_202]; decide +kernel
theorem zo_202_65 : zzOp 202 65 = some (.lstore 5, 2) := by unfold zzOp; rw [zm_202]; decide +kernel
theorem zo_202_67 : zzOp 202 67 = some (.iinc 7 1, 3) := by unfold zzOp; rw [zm_202]; decide +kernel
theorem zo_202_70 : zzOp 202 70 = some (.goto (-32), 3) := by unfold zzOp; rw [zm_202]; decide +kernel
theorem zo_202_73 : zzOp 202 73 = some (.lload 5, 2) := by unfold zzOp; rw [zm_202]; decide +kernel
theorem zo_202_75 : zzOp 202 75 = some (.lstore 7, 2) := by unfold zzOp; rw [zm_202]; decide +kernel
theorem zo_202_77 : zzOp 202 77 = some (.iload_n 2, 1) := by unfold zzOp; rw [zm_202]; decide +kernel
theorem zo_202_78 : zzOp 202 78 = some (.i2l, 1) := by unfold zzOp; rw [zm_202]; decide +kernel
theorem zo_202_79 : zzOp 202 79 = some (.lstore 9, 2) := by unfold zzOp; rw [zm_202]; decide +kernel
theorem zo_202_81 : zzOp 202 81 = some (.lload 9, 2) := by unfold zzOp; rw [zm_202]; decide +kernel
theorem zo_202_83 : zzOp 202 83 = some (.lconst 0, 1) := by unfold zzOp; rw [zm_202]; decide +kernel
theorem zo_202_84 : zzOp 202 84 = some (.lcmp, 1) := by unfold zzOp; rw [zm_202]; decide +kernel
theorem zo_202_85 : zzOp 202 85 = some (.ifCond .eq 21, 3) := by unfold zzOp; rw [zm_202]; decide +kernel
theorem zo_202_88 : zzOp 202 88 = some (.lload 7, 2) := by unfold zzOp; rw [zm_202]; decide +kernel
theorem zo_202_90 : zzOp 202 90 = some (.lload 9, 2) := by unfold zzOp; rw [zm_202]; decide +kernel
theorem zo_202_92 : zzOp 202 92 = some (.lrem, 1) := by unfold zzOp; rw [zm_202]; decide +kernel
theorem zo_202_93 : zzOp 202 93 = some (.lstore 11, 2) := by unfold zzOp; rw [zm_202]; decide +kernel
theorem zo_202_95 : zzOp 202 95 = some (.lload 9, 2) := by unfold zzOp; rw [zm_202]; decide +kernel
theorem zo_202_97 : zzOp 202 97 = some (.lstore 7, 2) := by unfold zzOp; rw [zm_202]; decide +kernel
theorem zo_202_99 : zzOp 202 99 = some (.lload 11, 2) := by unfold zzOp; rw [zm_202]; decide +kernel
theorem zo_202_101 : zzOp 202 101 = some (.lstore 9, 2) := by unfold zzOp; rw [zm_202]; decide +kernel
theorem zo_202_103 : zzOp 202 103 = some (.goto (-22), 3) := by unfold zzOp; rw [zm_202]; decide +kernel
theorem zo_202_106 : zzOp 202 106 = some (.iload_n 3, 1) := by unfold zzOp; rw [zm_202]; decide +kernel
theorem zo_202_107 : zzOp 202 107 = some (.ifCond .ne 11, 3) := by unfold zzOp; rw [zm_202]; decide +kernel
theorem zo_202_110 : zzOp 202 110 = some (.lload 5, 2) := by unfold zzOp; rw [zm_202]; decide +kernel
theorem zo_202_112 : zzOp 202 112 = some (.lload 7, 2) := by unfold zzOp; rw [zm_202]; decide +kernel
theorem zo_202_114 : zzOp 202 114 = some (.ldiv, 1) := by unfold zzOp; rw [zm_202]; decide +kernel
theorem zo_202_115 : zzOp 202 115 = some (.goto 8, 3) := by unfold zzOp; rw [zm_202]; decide +kernel
theorem zo_202_118 : zzOp 202 118 = some (.iload_n 2, 1) := by unfold zzOp; rw [zm_202]; decide +kernel
theorem zo_202_119 : zzOp 202 119 = some (.i2l, 1) := by unfold zzOp; rw [zm_202]; decide +kernel
theorem zo_202_120 : zzOp 202 120 = some (.lload 7, 2) := by unfold zzOp; rw [zm_202]; decide +kernel
theorem zo_202_122 : zzOp 202 122 = some (.ldiv, 1) := by unfold zzOp; rw [zm_202]; decide +kernel
theorem zo_202_123 : zzOp 202 123 = some (.lreturn, 1) := by unfold zzOp; rw [zm_202]; decide +kernel
theorem zl_202_88 : zzGet zzML (zzM 202).2.2.2.2.1 88 = some (0, 136) := by rw [zm_202]; decide +kernel
theorem zl_202_287 : zzGet zzML (zzM 202).2.2.2.2.1 287 = some (2, 178) := by rw [zm_202]; decide +kernel
theorem zl_202_358 : zzGet zzML (zzM 202).2.2.2.2.1 358 = some (2, 200) := by rw [zm_202]; decide +kernel
theorem zc_202_361 : zzGet zzKL (zzM 202).2.2.2.2.1 361 = some (20) := by rw [zm_202]; decide +kernel
theorem zc_202_363 : zzGet zzKL (zzM 202).2.2.2.2.1 363 = some (-4611686018427387904) := by rw [zm_202]; decide +kernel
theorem zm_203 : zzM 203 = (yX7_image, cX7_image, 2, (some .int), 7, 1, 1, zzc_203) := rfl
theorem zr_203 : (zzM 203).2.2.2.1 = (some .int) := by rw [zm_203]
theorem zo_203_0 : zzOp 203 0 = some (.iconst 0, 1) := by unfold zzOp; rw [zm_203]; decide +kernel
theorem zo_203_1 : zzOp 203 1 = some (.istore_n 1, 1) := by unfold zzOp; rw [zm_203]; decide +kernel
theorem zo_203_2 : zzOp 203 2 = some (.iload_n 1, 1) := by unfold zzOp; rw [zm_203]; decide +kernel
theorem zo_203_3 : zzOp 203 3 = some (.aload_n 0, 1) := by unfold zzOp; rw [zm_203]; decide +kernel
theorem zo_203_4 : zzOp 203 4 = some (.getfield 85, 3) := by unfold zzOp; rw [zm_203]; decide +kernel
theorem zo_203_7 : zzOp 203 7 = some (.if_icmp .ge 45, 3) := by unfold zzOp; rw [zm_203]; decide +kernel
theorem zo_203_10 : zzOp 203 10 = some (.aload_n 0, 1) := by unfold zzOp; rw [zm_203]; decide +kernel
theorem zo_203_11 : zzOp 203 11 = some (.getfield 53, 3) := by unfold zzOp; rw [zm_203]; decide +kernel
theorem zo_203_14 : zzOp 203 14 = some (.iload_n 1, 1) := by unfold zzOp; rw [zm_203]; decide +kernel
theorem zo_203_15 : zzOp 203 15 = some (.aload_n 0, 1) := by unfold zzOp; rw [zm_203]; decide +kernel
theorem zo_203_16 : zzOp 203 16 = some (.getfield 29, 3) := by unfold zzOp; rw [zm_203]; decide +kernel
theorem zo_203_19 : zzOp 203 19 = some (.iload_n 1, 1) := by unfold zzOp; rw [zm_203]; decide +kernel
theorem zo_203_20 : zzOp 203 20 = some (.iaload, 1) := by unfold zzOp; rw [zm_203]; decide +kernel
theorem zo_203_21 : zzOp 203 21 = some (.iastore, 1) := by unfold zzOp; rw [zm_203]; decide +kernel
theorem zo_203_22 : zzOp 203 22 = some (.aload_n 0, 1) := by unfold zzOp; rw [zm_203]; decide +kernel
theorem zo_203_23 : zzOp 203 23 = some (.getfield 56, 3) := by unfold zzOp; rw [zm_203]; decide +kernel
theorem zo_203_26 : zzOp 203 26 = some (.iload_n 1, 1) := by unfold zzOp; rw [zm_203]; decide +kernel
theorem zo_203_27 : zzOp 203 27 = some (.aload_n 0, 1) := by unfold zzOp; rw [zm_203]; decide +kernel
theorem zo_203_28 : zzOp 203 28 = some (.getfield 32, 3) := by unfold zzOp; rw [zm_203]; decide +kernel
theorem zo_203_31 : zzOp 203 31 = some (.iload_n 1, 1) := by unfold zzOp; rw [zm_203]; decide +kernel
theorem zo_203_32 : zzOp 203 32 = some (.iaload, 1) := by unfold zzOp; rw [zm_203]; decide +kernel
theorem zo_203_33 : zzOp 203 33 = some (.iastore, 1) := by unfold zzOp; rw [zm_203]; decide +kernel
theorem zo_203_34 : zzOp 203 34 = some (.aload_n 0, 1) := by unfold zzOp; rw [zm_203]; decide +kernel
theorem zo_203_35 : zzOp 203 35 = some (.getfield 59, 3) := by unfold zzOp; rw [zm_203]; decide +kernel
theorem zo_203_38 : zzOp 203 38 = some (.iload_n 1, 1) := by unfold zzOp; rw [zm_203]; decide +kernel
theorem zo_203_39 : zzOp 203 39 = some (.aload_n 0, 1) := by unfold zzOp; rw [zm_203]; decide +kernel
theorem zo_203_40 : zzOp 203 40 = some (.getfield 35, 3) := by unfold zzOp; rw [zm_203]; decide +kernel
theorem zo_203_43 : zzOp 203 43 = some (.iload_n 1, 1) := by unfold zzOp; rw [zm_203]; decide +kernel
theorem zo_203_44 : zzOp 203 44 = some (.iaload, 1) := by unfold zzOp; rw [zm_203]; decide +kernel
theorem zo_203_45 : zzOp 203 45 = some (.iastore, 1) := by unfold zzOp; rw [zm_203]; decide +kernel
theorem zo_203_46 : zzOp 203 46 = some (.iinc 1 1, 3) := by unfold zzOp; rw [zm_203]; decide +kernel
theorem zo_203_49 : zzOp 203 49 = some (.goto (-47), 3) := by unfold zzOp; rw [zm_203]; decide +kernel
theorem zo_203_52 : zzOp 203 52 = some (.aload_n 0, 1) := by unfold zzOp; rw [zm_203]; decide +kernel
theorem zo_203_53 : zzOp 203 53 = some (.aload_n 0, 1) := by unfold zzOp; rw [zm_203]; decide +kernel
theorem zo_203_54 : zzOp 203 54 = some (.getfield 85, 3) := by unfold zzOp; rw [zm_203]; decide +kernel
theorem zo_203_57 : zzOp 203 57 = some (.putfield 62, 3) := by unfold zzOp; rw [zm_203]; decide +kernel
theorem zo_203_60 : zzOp 203 60 = some (.aload_n 0, 1) := by unfold zzOp; rw [zm_203]; decide +kernel
theorem zo_203_61 : zzOp 203 61 = some (.aload_n 0, 1) := by unfold zzOp; rw [zm_203]; decide +kernel
theorem zo_203_62 : zzOp 203 62 = some (.getfield 118, 3) := by unfold zzOp; rw [zm_203]; decide +kernel
theorem zo_203_65 : zzOp 203 65 = some (.putfield 365, 3) := by unfold zzOp; rw [zm_203]; decide +kernel
theorem zo_203_68 : zzOp 203 68 = some (.aload_n 0, 1) := by unfold zzOp; rw [zm_203]; decide +kernel
theorem zo_203_69 : zzOp 203 69 = some (.aload_n 0, 1) := by unfold zzOp; rw [zm_203]; decide +kernel
theorem zo_203_70 : zzOp 203 70 = some (.getfield 23, 3) := by unfold zzOp; rw [zm_203]; decide +kernel
theorem zo_203_73 : zzOp 203 73 = some (.putfield 368, 3) := by unfold zzOp; rw [zm_203]; decide +kernel
theorem zo_203_76 : zzOp 203 76 = some (.aload_n 0, 1) := by unfold zzOp; rw [zm_203]; decide +kernel
theorem zo_203_77 : zzOp 203 77 = some (.aload_n 0, 1) := by unfold zzOp; rw [zm_203]; decide +kernel
theorem zo_203_78 : zzOp 203 78 = some (.getfield 121, 3) := by unfold zzOp; rw [zm_203]; decide +kernel
theorem zo_203_81 : zzOp 203 81 = some (.putfield 371, 3) := by unfold zzOp; rw [zm_203]; decide +kernel
theorem zo_203_84 : zzOp 203 84 = some (.aload_n 0, 1) := by unfold zzOp; rw [zm_203]; decide +kernel
theorem zo_203_85 : zzOp 203 85 = some (.getfield 85, 3) := by unfold zzOp; rw [zm_203]; decide +kernel
theorem zo_203_88 : zzOp 203 88 = some (.ireturn, 1) := by unfold zzOp; rw [zm_203]; decide +kernel
theorem zf_203_23 : zzGet zzFL (zzM 203).2.2.2.2.1 23 = some (7, 8) := by rw [zm_203]; decide +kernel
theorem zf_203_29 : zzGet zzFL (zzM 203).2.2.2.2.1 29 = some (7, 10) := by rw [zm_203]; decide +kernel
theorem zf_203_32 : zzGet zzFL (zzM 203).2.2.2.2.1 32 = some (7, 11) := by rw [zm_203]; decide +kernel
theorem zf_203_35 : zzGet zzFL (zzM 203).2.2.2.2.1 35 = some (7, 12) := by rw [zm_203]; decide +kernel
theorem zf_203_53 : zzGet zzFL (zzM 203).2.2.2.2.1 53 = some (7, 41) := by rw [zm_203]; decide +kernel
theorem zf_203_56 : zzGet zzFL (zzM 203).2.2.2.2.1 56 = some (7, 42) := by rw [zm_203]; decide +kernel
theorem zf_203_59 : zzGet zzFL (zzM 203).2.2.2.2.1 59 = some (7, 43) := by rw [zm_203]; decide +kernel
theorem zf_203_62 : zzGet zzFL (zzM 203).2.2.2.2.1 62 = some (7, 44) := by rw [zm_203]; decide +kernel
theorem zf_203_85 : zzGet zzFL (zzM 203).2.2.2.2.1 85 = some (7, 14) := by rw [zm_203]; decide +kernel
theorem zf_203_118 : zzGet zzFL (zzM 203).2.2.2.2.1 118 = some (7, 7) := by rw [zm_203]; decide +kernel
theorem zf_203_121 : zzGet zzFL (zzM 203).2.2.2.2.1 121 = some (7, 4) := by rw [zm_203]; decide +kernel
theorem zf_203_365 : zzGet zzFL (zzM 203).2.2.2.2.1 365 = some (7, 45) := by rw [zm_203]; decide +kernel
theorem zf_203_368 : zzGet zzFL (zzM 203).2.2.2.2.1 368 = some (7, 46) := by rw [zm_203]; decide +kernel
theorem zf_203_371 : zzGet zzFL (zzM 203).2.2.2.2.1 371 = some (7, 47) := by rw [zm_203]; decide +kernel
theorem zm_204 : zzM 204 = (yX7_back, cX7_back, 2, (some .int), 7, 1, 1, zzc_204) := rfl
theorem zr_204 : (zzM 204).2.2.2.1 = (some .int) := by rw [zm_204]
theorem zo_204_0 : zzOp 204 0 = some (.aload_n 0, 1) := by unfold zzOp; rw [zm_204]; decide +kernel
theorem zo_204_1 : zzOp 204 1 = some (.getfield 62, 3) := by unfold zzOp; rw [zm_204]; decide +kernel
theorem zo_204_4 : zzOp 204 4 = some (.iconst (-1), 1) := by unfold zzOp; rw [zm_204]; decide +kernel
theorem zo_204_5 : zzOp 204 5 = some (.if_icmp .ne 6, 3) := by unfold zzOp; rw [zm_204]; decide +kernel
theorem zo_204_8 : zzOp 204 8 = some (.bipush (-3), 2) := by unfold zzOp; rw [zm_204]; decide +kernel
theorem zo_204_10 : zzOp 204 10 = some (.ireturn, 1) := by unfold zzOp; rw [zm_204]; decide +kernel
theorem zo_204_11 : zzOp 204 11 = some (.iconst 0, 1) := by unfold zzOp; rw [zm_204]; decide +kernel
theorem zo_204_12 : zzOp 204 12 = some (.istore_n 1, 1) := by unfold zzOp; rw [zm_204]; decide +kernel
theorem zo_204_13 : zzOp 204 13 = some (.iload_n 1, 1) := by unfold zzOp; rw [zm_204]; decide +kernel
theorem zo_204_14 : zzOp 204 14 = some (.aload_n 0, 1) := by unfold zzOp; rw [zm_204]; decide +kernel
theorem zo_204_15 : zzOp 204 15 = some (.getfield 85, 3) := by unfold zzOp; rw [zm_204]; decide +kernel
theorem zo_204_18 : zzOp 204 18 = some (.if_icmp .ge 15, 3) := by unfold zzOp; rw [zm_204]; decide +kernel
theorem zo_204_21 : zzOp 204 21 = some (.aload_n 0, 1) := by unfold zzOp; rw [zm_204]; decide +kernel
theorem zo_204_22 : zzOp 204 22 = some (.iload_n 1, 1) := by unfold zzOp; rw [zm_204]; decide +kernel
theorem zo_204_23 : zzOp 204 23 = some (.iconst (-1), 1) := by unfold zzOp; rw [zm_204]; decide +kernel
theorem zo_204_24 : zzOp 204 24 = some (.invokevirtual 129, 3) := by unfold zzOp; rw [zm_204]; decide +kernel
theorem zo_204_27 : zzOp 204 27 = some (.iinc 1 1, 3) := by unfold zzOp; rw [zm_204]; decide +kernel
theorem zo_204_30 : zzOp 204 30 = some (.goto (-17), 3) := by unfold zzOp; rw [zm_204]; decide +kernel
theorem zo_204_33 : zzOp 204 33 = some (.aload_n 0, 1) := by unfold zzOp; rw [zm_204]; decide +kernel
theorem zo_204_34 : zzOp 204 34 = some (.aload_n 0, 1) := by unfold zzOp; rw [zm_204]; decide +kernel
theorem zo_204_35 : zzOp 204 35 = some (.getfield 62, 3) := by unfold zzOp; rw [zm_204]; decide +kernel
theorem zo_204_38 : zzOp 204 38 = some (.putfield 85, 3) := by unfold zzOp; rw [zm_204]; decide +kernel
theorem zo_204_41 : zzOp 204 41 = some (.iconst 0, 1) := by unfold zzOp; rw [zm_204]; decide +kernel
theorem zo_204_42 : zzOp 204 42 = some (.istore_n 1, 1) := by unfold zzOp; rw [zm_204]; decide +kernel
theorem zo_204_43 : zzOp 204 43 = some (.iload_n 1, 1) := by unfold zzOp; rw [zm_204]; decide +kernel
theorem zo_204_44 : zzOp 204 44 = some (.aload_n 0, 1) := by unfold zzOp; rw [zm_204]; decide +kernel
theorem zo_204_45 : zzOp 204 45 = some (.getfield 85, 3) := by unfold zzOp; rw [zm_204]; decide +kernel
theorem zo_204_48 : zzOp 204 48 = some (.if_icmp .ge 44, 3) := by unfold zzOp; rw [zm_204]; decide +kernel
theorem zo_204_51 : zzOp 204 51 = some (.aload_n 0, 1) := by unfold zzOp; rw [zm_204]; decide +kernel
theorem zo_204_52 : zzOp 204 52 = some (.getfield 29, 3) := by unfold zzOp; rw [zm_204]; decide +kernel
theorem zo_204_55 : zzOp 204 55 = some (.iload_n 1, 1) := by unfold zzOp; rw [zm_204]; decide +kernel
theorem zo_204_56 : zzOp 204 56 = some (.aload_n 0, 1) := by unfold zzOp; rw [zm_204]; decide +kernel
theorem zo_204_57 : zzOp 204 57 = some (.getfield 53, 3) := by unfold zzOp; rw [zm_204]; decide +kernel
theorem zo_204_60 : zzOp 204 60 = some (.iload_n 1, 1) := by unfold zzOp; rw [zm_204]; decide +kernel
theorem zo_204_61 : zzOp 204 61 = some (.iaload, 1) := by unfold zzOp; rw [zm_204]; decide +kernel
theorem zo_204_62 : zzOp 204 62 = some (.iastore, 1) := by unfold zzOp; rw [zm_204]; decide +kernel
theorem zo_204_63 : zzOp 204 63 = some (.aload_n 0, 1) := by unfold zzOp; rw [zm_204]; decide +kernel
theorem zo_204_64 : zzOp 204 64 = some (.getfield 32, 3) := by unfold zzOp; rw [zm_204]; decide +kernel
theorem zo_204_67 : zzOp 204 67 = some (.iload_n 1, 1) := by unfold zzOp; rw [zm_204]; decide +kernel
theorem zo_204_68 : zzOp 204 68 = some (.aload_n 0, 1) := by unfold zzOp; rw [zm_204]; decide +kernel
theorem zo_204_69 : zzOp 204 69 = some (.getfield 56, 3) := by unfold zzOp; rw [zm_204]; decide +kernel
theorem zo_204_72 : zzOp 204 72 = some (.iload_n 1, 1) := by unfold zzOp; rw [zm_204]; decide +kernel
theorem zo_204_73 : zzOp 204 73 = some (.iaload, 1) := by unfold zzOp; rw [zm_204]; decide +kernel
theorem zo_204_74 : zzOp 204 74 = some (.iastore, 1) := by unfold zzOp; rw [zm_204]; decide +kernel
theorem zo_204_75 : zzOp 204 75 = some (.aload_n 0, 1) := by unfold zzOp; rw [zm_204]; decide +kernel
theorem zo_204_76 : zzOp 204 76 = some (.iload_n 1, 1) := by unfold zzOp; rw [zm_204]; decide +kernel
theorem zo_204_77 : zzOp 204 77 = some (.aload_n 0, 1) := by unfold zzOp; rw [zm_204]; decide +kernel
theorem zo_204_78 : zzOp 204 78 = some (.getfield 59, 3) := by unfold zzOp; rw [zm_204]; decide +kernel
theorem zo_204_81 : zzOp 204 81 = some (.iload_n 1, 1) := by unfold zzOp; rw [zm_204]; decide +kernel
theorem zo_204_82 : zzOp 204 82 = some (.iaload, 1) := by unfold zzOp; rw [zm_204]; decide +kernel
theorem zo_204_83 : zzOp 204 83 = some (.invokevirtual 129, 3) := by unfold zzOp; rw [zm_204]; decide +kernel
theorem zo_204_86 : zzOp 204 86 = some (.iinc 1 1, 3) := by unfold zzOp; rw [zm_204]; decide +kernel
theorem zo_204_89 : zzOp 204 89 = some (.goto (-46), 3) := by unfold zzOp; rw [zm_204]; decide +kernel
theorem zo_204_92 : zzOp 204 92 = some (.aload_n 0, 1) := by unfold zzOp; rw [zm_204]; decide +kernel
theorem zo_204_93 : zzOp 204 93 = some (.aload_n 0, 1) := by unfold zzOp; rw [zm_204]; decide +kernel
theorem zo_204_94 : zzOp 204 94 = some (.getfield 365, 3) := by unfold zzOp; rw [zm_204]; decide +kernel
theorem zo_204_97 : zzOp 204 97 = some (.putfield 118, 3) := by unfold zzOp; rw [zm_204]; decide +kernel
theorem zo_204_100 : zzOp 204 100 = some (.aload_n 0, 1) := by unfold zzOp; rw [zm_204]; decide +kernel
theorem zo_204_101 : zzOp 204 101 = some (.aload_n 0, 1) := by unfold zzOp; rw [zm_204]; decide +kernel
theorem zo_204_102 : zzOp 204 102 = some (.getfield 368, 3) := by unfold zzOp; rw [zm_204]; decide +kernel
theorem zo_204_105 : zzOp 204 105 = some (.putfield 23, 3) := by unfold zzOp; rw [zm_204]; decide +kernel
theorem zo_204_108 : zzOp 204 108 = some (.aload_n 0, 1) := by unfold zzOp; rw [zm_204]; decide +kernel
theorem zo_204_109 : zzOp 204 109 = some (.aload_n 0, 1) := by unfold zzOp; rw [zm_204]; decide +kernel
theorem zo_204_110 : zzOp 204 110 = some (.getfield 371, 3) := by unfold zzOp; rw [zm_204]; decide +kernel
theorem zo_204_113 : zzOp 204 113 = some (.putfield 121, 3) := by unfold zzOp; rw [zm_204]; decide +kernel
theorem zo_204_116 : zzOp 204 116 = some (.aload_n 0, 1) := by unfold zzOp; rw [zm_204]; decide +kernel
theorem zo_204_117 : zzOp 204 117 = some (.getfield 85, 3) := by unfold zzOp; rw [zm_204]; decide +kernel
theorem zo_204_120 : zzOp 204 120 = some (.ireturn, 1) := by unfold zzOp; rw [zm_204]; decide +kernel
theorem zf_204_23 : zzGet zzFL (zzM 204).2.2.2.2.1 23 = some (7, 8) := by rw [zm_204]; decide +kernel
theorem zf_204_29 : zzGet zzFL (zzM 204).2.2.2.2.1 29 = some (7, 10) := by rw [zm_204]; decide +kernel
theorem zf_204_32 : zzGet zzFL (zzM 204).2.2.2.2.1 32 = some (7, 11) := by rw [zm_204]; decide +kernel
theorem zf_204_53 : zzGet zzFL (zzM 204).2.2.2.2.1 53 = some (7, 41) := by rw [zm_204]; decide +kernel
theorem zf_204_56 : zzGet zzFL (zzM 204).2.2.2.2.1 56 = some (7, 42) := by rw [zm_204]; decide +kernel
theorem zf_204_59 : zzGet zzFL (zzM 204).2.2.2.2.1 59 = some (7, 43) := by rw [zm_204]; decide +kernel
theorem zf_204_62 : zzGet zzFL (zzM 204).2.2.2.2.1 62 = some (7, 44) := by rw [zm_204]; decide +kernel
theorem zf_204_85 : zzGet zzFL (zzM 204).2.2.2.2.1 85 = some (7, 14) := by rw [zm_204]; decide +kernel
theorem zf_204_118 : zzGet zzFL (zzM 204).2.2.2.2.1 118 = some (7, 7) := by rw [zm_204]; decide +kernel
theorem zf_204_121 : zzGet zzFL (zzM 204).2.2.2.2.1 121 = some (7, 4) := by rw [zm_204]; decide +kernel
theorem zf_204_365 : zzGet zzFL (zzM 204).2.2.2.2.1 365 = some (7, 45) := by rw [zm_204]; decide +kernel
theorem zf_204_368 : zzGet zzFL (zzM 204).2.2.2.2.1 368 = some (7, 46) := by rw [zm_204]; decide +kernel
theorem zf_204_371 : zzGet zzFL (zzM 204).2.2.2.2.1 371 = some (7, 47) := by rw [zm_204]; decide +kernel
theorem zl_204_129 : zzGet zzML (zzM 204).2.2.2.2.1 129 = some (2, 146) := by rw [zm_204]; decide +kernel
theorem zm_205 : zzM 205 = (yX7_count, cX7_count, 4, (some .int), 7, 2, 1, zzc_205) := rfl
theorem zr_205 : (zzM 205).2.2.2.1 = (some .int) := by rw [zm_205]
theorem zo_205_0 : zzOp 205 0 = some (.iload_n 1, 1) := by unfold zzOp; rw [zm_205]; decide +kernel
theorem zo_205_1 : zzOp 205 1 = some (.i2l, 1) := by unfold zzOp; rw [zm_205]; decide +kernel
theorem zo_205_2 : zzOp 205 2 = some (.lconst 0, 1) := by unfold zzOp; rw [zm_205]; decide +kernel
theorem zo_205_3 : zzOp 205 3 = some (.ldc2_w 374, 3) := by unfold zzOp; rw [zm_205]; decide +kernel
theorem zo_205_6 : zzOp 205 6 = some (.invokestatic 88, 3) := by unfold zzOp; rw [zm_205]; decide +kernel
theorem zo_205_9 : zzOp 205 9 = some (.ifCond .ne 6, 3) := by unfold zzOp; rw [zm_205]; decide +kernel
theorem zo_205_12 : zzOp 205 12 = some (.bipush (-2), 2) := by unfold zzOp; rw [zm_205]; decide +kernel
theorem zo_205_14 : zzOp 205 14 = some (.ireturn, 1) := by unfold zzOp; rw [zm_205]; decide +kernel
theorem zo_205_15 : zzOp 205 15 = some (.iload_n 1, 1) := by unfold zzOp; rw [zm_205]; decide +kernel
theorem zo_205_16 : zzOp 205 16 = some (.iconst 1, 1) := by unfold zzOp; rw [zm_205]; decide +kernel
theorem zo_205_17 : zzOp 205 17 = some (.if_icmp .le 32, 3) := by unfold zzOp; rw [zm_205]; decide +kernel
theorem zo_205_20 : zzOp 205 20 = some (.iload_n 1, 1) := by unfold zzOp; rw [zm_205]; decide +kernel
theorem zo_205_21 : zzOp 205 21 = some (.iconst 2, 1) := by unfold zzOp; rw [zm_205]; decide +kernel
theorem zo_205_22 : zzOp 205 22 = some (.if_icmp .ne 10, 3) := by unfold zzOp; rw [zm_205]; decide +kernel
theorem zo_205_25 : zzOp 205 25 = some (.aload_n 0, 1) := by unfold zzOp; rw [zm_205]; decide +kernel
theorem zo_205_26 : zzOp 205 26 = some (.getfield 82, 3) := by unfold zzOp; rw [zm_205]; decide +kernel
theorem zo_205_29 : zzOp 205 29 = some (.goto 19, 3) := by unfold zzOp; rw [zm_205]; decide +kernel
theorem zo_205_32 : zzOp 205 32 = some (.iload_n 1, 1) := by unfold zzOp; rw [zm_205]; decide +kernel
theorem zo_205_33 : zzOp 205 33 = some (.iconst 3, 1) := by unfold zzOp; rw [zm_205]; decide +kernel
theorem zo_205_34 : zzOp 205 34 = some (.if_icmp .ne 10, 3) := by unfold zzOp; rw [zm_205]; decide +kernel
theorem zo_205_37 : zzOp 205 37 = some (.aload_n 0, 1) := by unfold zzOp; rw [zm_205]; decide +kernel
theorem zo_205_38 : zzOp 205 38 = some (.getfield 148, 3) := by unfold zzOp; rw [zm_205]; decide +kernel
theorem zo_205_41 : zzOp 205 41 = some (.goto 7, 3) := by unfold zzOp; rw [zm_205]; decide +kernel
theorem zo_205_44 : zzOp 205 44 = some (.aload_n 0, 1) := by unfold zzOp; rw [zm_205]; decide +kernel
theorem zo_205_45 : zzOp 205 45 = some (.getfield 121, 3) := by unfold zzOp; rw [zm_205]; decide +kernel
theorem zo_205_48 : zzOp 205 48 = some (.ireturn, 1) := by unfold zzOp; rw [zm_205]; decide +kernel
theorem zo_205_49 : zzOp 205 49 = some (.iconst 0, 1) := by unfold zzOp; rw [zm_205]; decide +kernel
theorem zo_205_50 : zzOp 205 50 = some (.istore_n 2, 1) := by unfold zzOp; rw [zm_205]; decide +kernel
theorem zo_205_51 : zzOp 205 51 = some (.iconst 0, 1) := by unfold zzOp; rw [zm_205]; decide +kernel
theorem zo_205_52 : zzOp 205 52 = some (.istore_n 3, 1) := by unfold zzOp; rw [zm_205]; decide +kernel
theorem zo_205_53 : zzOp 205 53 = some (.iload_n 3, 1) := by unfold zzOp; rw [zm_205]; decide +kernel
theorem zo_205_54 : zzOp 205 54 = some (.aload_n 0, 1) := by unfold zzOp; rw [zm_205]; decide +kernel
theorem zo_205_55 : zzOp 205 55 = some (.getfield 85, 3) := by unfold zzOp; rw [zm_205]; decide +kernel
theorem zo_205_58 : zzOp 205 58 = some (.if_icmp .ge 31, 3) := by unfold zzOp; rw [zm_205]; decide +kernel
theorem zo_205_61 : zzOp 205 61 = some (.iload_n 2, 1) := by unfold zzOp; rw [zm_205]; decide +kernel
theorem zo_205_62 : zzOp 205 62 = some (.iload_n 1, 1) := by unfold zzOp; rw [zm_205]; decide +kernel
theorem zo_205_63 : zzOp 205 63 = some (.ifCond .eq 13, 3) := by unfold zzOp; rw [zm_205]; decide +kernel
theorem zo_205_66 : zzOp 205 66 = some (.aload_n 0, 1) := by unfold zzOp; rw [zm_205]; decide +kernel
theorem zo_205_67 : zzOp 205 67 = some (.getfield 35, 3) := by unfold zzOp; rw [zm_205]; decide +kernel
theorem zo_205_70 : zzOp 205 70 = some (.iload_n 3, 1) := by unfold zzOp; rw [zm_205]; decide +kernel
theorem zo_205_71 : zzOp 205 71 = some (.iaload, 1) := by unfold zzOp; rw [zm_205]; decide +kernel
theorem zo_205_72 : zzOp 205 72 = some (.iconst (-1), 1) := by unfold zzOp; rw [zm_205]; decide +kernel
theorem zo_205_73 : zzOp 205 73 = some (.if_icmp .eq 7, 3) := by unfold zzOp; rw [zm_205]; decide +kernel
theorem zo_205_76 : zzOp 205 76 = some (.iconst 1, 1) := by unfold zzOp; rw [zm_205]; decide +kernel
theorem zo_205_77 : zzOp 205 77 = some (.goto 4, 3) := by unfold zzOp; rw [zm_205]; decide +kernel
theorem zo_205_80 : zzOp 205 80 = some (.iconst 0, 1) := by unfold zzOp; rw [zm_205]; decide +kernel
theorem zo_205_81 : zzOp 205 81 = some (.iadd, 1) := by unfold zzOp; rw [zm_205]; decide +kernel
theorem zo_205_82 : zzOp 205 82 = some (.istore_n 2, 1) := by unfold zzOp; rw [zm_205]; decide +kernel
theorem zo_205_83 : zzOp 205 83 = some (.iinc 3 1, 3) := by unfold zzOp; rw [zm_205]; decide +kernel
theorem zo_205_86 : zzOp 205 86 = some (.goto (-33), 3) := by unfold zzOp; rw [zm_205]; decide +kernel
theorem zo_205_89 : zzOp 205 89 = some (.iload_n 2, 1) := by unfold zzOp; rw [zm_205]; decide +kernel
theorem zo_205_90 : zzOp 205 90 = some (.ireturn, 1) := by unfold zzOp; rw [zm_205]; decide +kernel
theorem zf_205_35 : zzGet zzFL (zzM 205).2.2.2.2.1 35 = some (7, 12) := by rw [zm_205]; decide +kernel
theorem zf_205_82 : zzGet zzFL (zzM 205).2.2.2.2.1 82 = some (7, 3) := by rw [zm_205]; decide +kernel
theorem zf_205_85 : zzGet zzFL (zzM 205).2.2.2.2.1 85 = some (7, 14) := by rw [zm_205]; decide +kernel
theorem zf_205_121 : zzGet zzFL (zzM 205).2.2.2.2.1 121 = some (7, 4) := by rw [zm_205]; decide +kernel
theorem zf_205_148 : zzGet zzFL (zzM 205).2.2.2.2.1 148 = some (7, 6) := by rw [zm_205]; decide +kernel
theorem zl_205_88 : zzGet zzML (zzM 205).2.2.2.2.1 88 = some (0, 136) := by rw [zm_205]; decide +kernel
theorem zc_205_374 : zzGet zzKL (zzM 205).2.2.2.2.1 374 = some (4) := by rw [zm_205]; decide +kernel
theorem zm_206 : zzM 206 = (yX7_isSheet, cX7_isSheet, 1, (some .boolean), 7, 1, 0, zzc_206) := rfl
theorem zr_206 : (zzM 206).2.2.2.1 = (some .boolean) := by rw [zm_206]
theorem zo_206_0 : zzOp 206 0 = some (.iload_n 0, 1) := by unfold zzOp; rw [zm_206]; decide +kernel
theorem zo_206_1 : zzOp 206 1 = some (.i2l, 1) := by unfold zzOp; rw [zm_206]; decide +kernel
theorem zo_206_2 : zzOp 206 2 = some (.lconst 0, 1) := by unfold zzOp; rw [zm_206]; decide +kernel
theorem zo_206_3 : zzOp 206 3 = some (.ldc2_w 104, 3) := by unfold zzOp; rw [zm_206]; decide +kernel
theorem zo_206_6 : zzOp 206 6 = some (.invokestatic 88, 3) := by unfold zzOp; rw [zm_206]; decide +kernel
theorem zo_206_9 : zzOp 206 9 = some (.ireturn, 1) := by unfold zzOp; rw [zm_206]; decide +kernel
theorem zl_206_88 : zzGet zzML (zzM 206).2.2.2.2.1 88 = some (0, 136) := by rw [zm_206]; decide +kernel
theorem zc_206_104 : zzGet zzKL (zzM 206).2.2.2.2.1 104 = some (3) := by rw [zm_206]; decide +kernel
theorem zm_207 : zzM 207 = (yX7_sheet, cX7_sheet, 5, (some .int), 7, 4, 1, zzc_207) := rfl
theorem zr_207 : (zzM 207).2.2.2.1 = (some .int) := by rw [zm_207]
theorem zo_207_0 : zzOp 207 0 = some (.iload_n 1, 1) := by unfold zzOp; rw [zm_207]; decide +kernel
theorem zo_207_1 : zzOp 207 1 = some (.invokestatic 334, 3) := by unfold zzOp; rw [zm_207]; decide +kernel
theorem zo_207_4 : zzOp 207 4 = some (.ifCond .eq 27, 3) := by unfold zzOp; rw [zm_207]; decide +kernel
theorem zo_207_7 : zzOp 207 7 = some (.iload_n 2, 1) := by unfold zzOp; rw [zm_207]; decide +kernel
theorem zo_207_8 : zzOp 207 8 = some (.i2l, 1) := by unfold zzOp; rw [zm_207]; decide +kernel
theorem zo_207_9 : zzOp 207 9 = some (.ldc2_w 376, 3) := by unfold zzOp; rw [zm_207]; decide +kernel
theorem zo_207_12 : zzOp 207 12 = some (.ldc2_w 284, 3) := by unfold zzOp; rw [zm_207]; decide +kernel
theorem zo_207_15 : zzOp 207 15 = some (.invokestatic 88, 3) := by unfold zzOp; rw [zm_207]; decide +kernel
theorem zo_207_18 : zzOp 207 18 = some (.ifCond .eq 13, 3) := by unfold zzOp; rw [zm_207]; decide +kernel
theorem zo_207_21 : zzOp 207 21 = some (.iload_n 2, 1) := by unfold zzOp; rw [zm_207]; decide +kernel
theorem zo_207_22 : zzOp 207 22 = some (.ifCond .lt 12, 3) := by unfold zzOp; rw [zm_207]; decide +kernel
theorem zo_207_25 : zzOp 207 25 = some (.iload_n 3, 1) := by unfold zzOp; rw [zm_207]; decide +kernel
theorem zo_207_26 : zzOp 207 26 = some (.bipush 40, 2) := by unfold zzOp; rw [zm_207]; decide +kernel
theorem zo_207_28 : zzOp 207 28 = some (.if_icmp .le 6, 3) := by unfold zzOp; rw [zm_207]; decide +kernel
theorem zo_207_31 : zzOp 207 31 = some (.bipush (-2), 2) := by unfold zzOp; rw [zm_207]; decide +kernel
theorem zo_207_33 : zzOp 207 33 = some (.ireturn, 1) := by unfold zzOp; rw [zm_207]; decide +kernel
theorem zo_207_34 : zzOp 207 34 = some (.iload_n 2, 1) := by unfold zzOp; rw [zm_207]; decide +kernel
theorem zo_207_35 : zzOp 207 35 = some (.ifCond .lt 10, 3) := by unfold zzOp; rw [zm_207]; decide +kernel
theorem zo_207_38 : zzOp 207 38 = some (.iload_n 3, 1) := by unfold zzOp; rw [zm_207]; decide +kernel
theorem zo_207_39 : zzOp 207 39 = some (.ifCond .ge 6, 3) := by unfold zzOp; rw [zm_207]; decide +kernel
theorem zo_207_42 : zzOp 207 42 = some (.bipush (-14), 2) := by unfold zzOp; rw [zm_207]; decide +kernel
theorem zo_207_44 : zzOp 207 44 = some (.ireturn, 1) := by unfold zzOp; rw [zm_207]; decide +kernel
theorem zo_207_45 : zzOp 207 45 = some (.aload_n 0, 1) := by unfold zzOp; rw [zm_207]; decide +kernel
theorem zo_207_46 : zzOp 207 46 = some (.getfield 65, 3) := by unfold zzOp; rw [zm_207]; decide +kernel
theorem zo_207_49 : zzOp 207 49 = some (.iload_n 1, 1) := by unfold zzOp; rw [zm_207]; decide +kernel
theorem zo_207_50 : zzOp 207 50 = some (.iload_n 2, 1) := by unfold zzOp; rw [zm_207]; decide +kernel
theorem zo_207_51 : zzOp 207 51 = some (.ifCond .lt 7, 3) := by unfold zzOp; rw [zm_207]; decide +kernel
theorem zo_207_54 : zzOp 207 54 = some (.iconst 1, 1) := by unfold zzOp; rw [zm_207]; decide +kernel
theorem zo_207_55 : zzOp 207 55 = some (.goto 4, 3) := by unfold zzOp; rw [zm_207]; decide +kernel
theorem zo_207_58 : zzOp 207 58 = some (.iconst 0, 1) := by unfold zzOp; rw [zm_207]; decide +kernel
theorem zo_207_59 : zzOp 207 59 = some (.bastore, 1) := by unfold zzOp; rw [zm_207]; decide +kernel
theorem zo_207_60 : zzOp 207 60 = some (.aload_n 0, 1) := by unfold zzOp; rw [zm_207]; decide +kernel
theorem zo_207_61 : zzOp 207 61 = some (.getfield 69, 3) := by unfold zzOp; rw [zm_207]; decide +kernel
theorem zo_207_64 : zzOp 207 64 = some (.iload_n 1, 1) := by unfold zzOp; rw [zm_207]; decide +kernel
theorem zo_207_65 : zzOp 207 65 = some (.iload_n 2, 1) := by unfold zzOp; rw [zm_207]; decide +kernel
theorem zo_207_66 : zzOp 207 66 = some (.iastore, 1) := by unfold zzOp; rw [zm_207]; decide +kernel
theorem zo_207_67 : zzOp 207 67 = some (.aload_n 0, 1) := by unfold zzOp; rw [zm_207]; decide +kernel
theorem zo_207_68 : zzOp 207 68 = some (.getfield 72, 3) := by unfold zzOp; rw [zm_207]; decide +kernel
theorem zo_207_71 : zzOp 207 71 = some (.iload_n 1, 1) := by unfold zzOp; rw [zm_207]; decide +kernel
theorem zo_207_72 : zzOp 207 72 = some (.iload_n 3, 1) := by unfold zzOp; rw [zm_207]; decide +kernel
theorem zo_207_73 : zzOp 207 73 = some (.iastore, 1) := by unfold zzOp; rw [zm_207]; decide +kernel
theorem zo_207_74 : zzOp 207 74 = some (.iconst 0, 1) := by unfold zzOp; rw [zm_207]; decide +kernel
theorem zo_207_75 : zzOp 207 75 = some (.istore 4, 2) := by unfold zzOp; rw [zm_207]; decide +kernel
theorem zo_207_77 : zzOp 207 77 = some (.iload 4, 2) := by unfold zzOp; rw [zm_207]; decide +kernel
theorem zo_207_79 : zzOp 207 79 = some (.iload_n 3, 1) := by unfold zzOp; rw [zm_207]; decide +kernel
theorem zo_207_80 : zzOp 207 80 = some (.if_icmp .ge 26, 3) := by unfold zzOp; rw [zm_207]; decide +kernel
theorem zo_207_83 : zzOp 207 83 = some (.iload_n 2, 1) := by unfold zzOp; rw [zm_207]; decide +kernel
theorem zo_207_84 : zzOp 207 84 = some (.ifCond .lt 22, 3) := by unfold zzOp; rw [zm_207]; decide +kernel
theorem zo_207_87 : zzOp 207 87 = some (.aload_n 0, 1) := by unfold zzOp; rw [zm_207]; decide +kernel
theorem zo_207_88 : zzOp 207 88 = some (.getfield 75, 3) := by unfold zzOp; rw [zm_207]; decide +kernel
theorem zo_207_91 : zzOp 207 91 = some (.bipush 40, 2) := by unfold zzOp; rw [zm_207]; decide +kernel
theorem zo_207_93 : zzOp 207 93 = some (.iload_n 1, 1) := by unfold zzOp; rw [zm_207]; decide +kernel
theorem zo_207_94 : zzOp 207 94 = some (.imul, 1) := by unfold zzOp; rw [zm_207]; decide +kernel
theorem zo_207_95 : zzOp 207 95 = some (.iload 4, 2) := by unfold zzOp; rw [zm_207]; decide +kernel
theorem zo_207_97 : zzOp 207 97 = some (.iadd, 1) := by unfold zzOp; rw [zm_207]; decide +kernel
theorem zo_207_98 : zzOp 207 98 = some (.iconst 0, 1) := by unfold zzOp; rw [zm_207]; decide +kernel
theorem zo_207_99 : zzOp 207 99 = some (.iastore, 1) := by unfold zzOp; rw [zm_207]; decide +kernel
theorem zo_207_100 : zzOp 207 100 = some (.iinc 4 1, 3) := by unfold zzOp; rw [zm_207]; decide +kernel
theorem zo_207_103 : zzOp 207 103 = some (.goto (-26), 3) := by unfold zzOp; rw [zm_207]; decide +kernel
theorem zo_207_106 : zzOp 207 106 = some (.iconst 1, 1) := by unfold zzOp; rw [zm_207]; decide +kernel
theorem zo_207_107 : zzOp 207 107 = some (.ireturn, 1) := by unfold zzOp; rw [zm_207]; decide +kernel
theorem zf_207_65 : zzGet zzFL (zzM 207).2.2.2.2.1 65 = some (7, 48) := by rw [zm_207]; decide +kernel
theorem zf_207_69 : zzGet zzFL (zzM 207).2.2.2.2.1 69 = some (7, 49) := by rw [zm_207]; decide +kernel
theorem zf_207_72 : zzGet zzFL (zzM 207).2.2.2.2.1 72 = some (7, 50) := by rw [zm_207]; decide +kernel
theorem zf_207_75 : zzGet zzFL (zzM 207).2.2.2.2.1 75 = some (7, 51) := by rw [zm_207]; decide +kernel
theorem zl_207_88 : zzGet zzML (zzM 207).2.2.2.2.1 88 = some (0, 136) := by rw [zm_207]; decide +kernel
theorem zl_207_334 : zzGet zzML (zzM 207).2.2.2.2.1 334 = some (0, 206) := by rw [zm_207]; decide +kernel
theorem zc_207_284 : zzGet zzKL (zzM 207).2.2.2.2.1 284 = some (2) := by rw [zm_207]; decide +kernel
theorem zc_207_376 : zzGet zzKL (zzM 207).2.2.2.2.1 376 = some (-1) := by rw [zm_207]; decide +kernel
theorem zm_208 : zzM 208 = (yX7_cell, cX7_cell, 4, (some .int), 7, 4, 1, zzc_208) := rfl
theorem zr_208 : (zzM 208).2.2.2.1 = (some .int) := by rw [zm_208]
theorem zo_208_0 : zzOp 208 0 = some (.iload_n 1, 1) := by unfold zzOp; rw [zm_208]; decide +kernel
theorem zo_208_1 : zzOp 208 1 = some (.invokestatic 334, 3) := by unfold zzOp; rw [zm_208]; decide +kernel
theorem zo_208_4 : zzOp 208 4 = some (.ifCond .ne 6, 3) := by unfold zzOp; rw [zm_208]; decide +kernel
theorem zo_208_7 : zzOp 208 7 = some (.bipush (-2), 2) := by unfold zzOp; rw [zm_208]; decide +kernel
theorem zo_208_9 : zzOp 208 9 = some (.ireturn, 1) := by unfold zzOp; rw [zm_208]; decide +kernel
theorem zo_208_10 : zzOp 208 10 = some (.aload_n 0, 1) := by unfold zzOp; rw [zm_208]; decide +kernel
theorem zo_208_11 : zzOp 208 11 = some (.getfield 65, 3) := by unfold zzOp; rw [zm_208]; decide +kernel
theorem zo_208_14 : zzOp 208 14 = some (.iload_n 1, 1) := by unfold zzOp; rw [zm_208]; decide +kernel
theorem zo_208_15 : zzOp 208 15 = some (.baload, 1) := by unfold zzOp; rw [zm_208]; decide +kernel
theorem zo_208_16 : zzOp 208 16 = some (.ifCond .ne 6, 3) := by unfold zzOp; rw [zm_208]; decide +kernel
theorem zo_208_19 : zzOp 208 19 = some (.bipush (-11), 2) := by unfold zzOp; rw [zm_208]; decide +kernel
theorem zo_208_21 : zzOp 208 21 = some (.ireturn, 1) := by unfold zzOp; rw [zm_208]; decide +kernel
theorem zo_208_22 : zzOp 208 22 = some (.iload_n 2, 1) := by unfold zzOp; rw [zm_208]; decide +kernel
theorem zo_208_23 : zzOp 208 23 = some (.i2l, 1) := by unfold zzOp; rw [zm_208]; decide +kernel
theorem zo_208_24 : zzOp 208 24 = some (.lconst 0, 1) := by unfold zzOp; rw [zm_208]; decide +kernel
theorem zo_208_25 : zzOp 208 25 = some (.aload_n 0, 1) := by unfold zzOp; rw [zm_208]; decide +kernel
theorem zo_208_26 : zzOp 208 26 = some (.getfield 72, 3) := by unfold zzOp; rw [zm_208]; decide +kernel
theorem zo_208_29 : zzOp 208 29 = some (.iload_n 1, 1) := by unfold zzOp; rw [zm_208]; decide +kernel
theorem zo_208_30 : zzOp 208 30 = some (.iaload, 1) := by unfold zzOp; rw [zm_208]; decide +kernel
theorem zo_208_31 : zzOp 208 31 = some (.iconst 1, 1) := by unfold zzOp; rw [zm_208]; decide +kernel
theorem zo_208_32 : zzOp 208 32 = some (.isub, 1) := by unfold zzOp; rw [zm_208]; decide +kernel
theorem zo_208_33 : zzOp 208 33 = some (.i2l, 1) := by unfold zzOp; rw [zm_208]; decide +kernel
theorem zo_208_34 : zzOp 208 34 = some (.invokestatic 88, 3) := by unfold zzOp; rw [zm_208]; decide +kernel
theorem zo_208_37 : zzOp 208 37 = some (.ifCond .ne 6, 3) := by unfold zzOp; rw [zm_208]; decide +kernel
theorem zo_208_40 : zzOp 208 40 = some (.bipush (-12), 2) := by unfold zzOp; rw [zm_208]; decide +kernel
theorem zo_208_42 : zzOp 208 42 = some (.ireturn, 1) := by unfold zzOp; rw [zm_208]; decide +kernel
theorem zo_208_43 : zzOp 208 43 = some (.aload_n 0, 1) := by unfold zzOp; rw [zm_208]; decide +kernel
theorem zo_208_44 : zzOp 208 44 = some (.getfield 75, 3) := by unfold zzOp; rw [zm_208]; decide +kernel
theorem zo_208_47 : zzOp 208 47 = some (.bipush 40, 2) := by unfold zzOp; rw [zm_208]; decide +kernel
theorem zo_208_49 : zzOp 208 49 = some (.iload_n 1, 1) := by unfold zzOp; rw [zm_208]; decide +kernel
theorem zo_208_50 : zzOp 208 50 = some (.imul, 1) := by unfold zzOp; rw [zm_208]; decide +kernel
theorem zo_208_51 : zzOp 208 51 = some (.iload_n 2, 1) := by unfold zzOp; rw [zm_208]; decide +kernel
theorem zo_208_52 : zzOp 208 52 = some (.iadd, 1) := by unfold zzOp; rw [zm_208]; decide +kernel
theorem zo_208_53 : zzOp 208 53 = some (.aload_n 0, 1) := by unfold zzOp; rw [zm_208]; decide +kernel
theorem zo_208_54 : zzOp 208 54 = some (.getfield 69, 3) := by unfold zzOp; rw [zm_208]; decide +kernel
theorem zo_208_57 : zzOp 208 57 = some (.iload_n 1, 1) := by unfold zzOp; rw [zm_208]; decide +kernel
theorem zo_208_58 : zzOp 208 58 = some (.iaload, 1) := by unfold zzOp; rw [zm_208]; decide +kernel
theorem zo_208_59 : zzOp 208 59 = some (.ifCond .ne 8, 3) := by unfold zzOp; rw [zm_208]; decide +kernel
theorem zo_208_62 : zzOp 208 62 = some (.iload_n 3, 1) := by unfold zzOp; rw [zm_208]; decide +kernel
theorem zo_208_63 : zzOp 208 63 = some (.i2b, 1) := by unfold zzOp; rw [zm_208]; decide +kernel
theorem zo_208_64 : zzOp 208 64 = some (.goto 19, 3) := by unfold zzOp; rw [zm_208]; decide +kernel
theorem zo_208_67 : zzOp 208 67 = some (.aload_n 0, 1) := by unfold zzOp; rw [zm_208]; decide +kernel
theorem zo_208_68 : zzOp 208 68 = some (.getfield 69, 3) := by unfold zzOp; rw [zm_208]; decide +kernel
theorem zo_208_71 : zzOp 208 71 = some (.iload_n 1, 1) := by unfold zzOp; rw [zm_208]; decide +kernel
theorem zo_208_72 : zzOp 208 72 = some (.iaload, 1) := by unfold zzOp; rw [zm_208]; decide +kernel
theorem zo_208_73 : zzOp 208 73 = some (.iconst 1, 1) := by unfold zzOp; rw [zm_208]; decide +kernel
theorem zo_208_74 : zzOp 208 74 = some (.if_icmp .ne 8, 3) := by unfold zzOp; rw [zm_208]; decide +kernel
theorem zo_208_77 : zzOp 208 77 = some (.iload_n 3, 1) := by unfold zzOp; rw [zm_208]; decide +kernel
theorem zo_208_78 : zzOp 208 78 = some (.i2s, 1) := by unfold zzOp; rw [zm_208]; decide +kernel
theorem zo_208_79 : zzOp 208 79 = some (.goto 4, 3) := by unfold zzOp; rw [zm_208]; decide +kernel
theorem zo_208_82 : zzOp 208 82 = some (.iload_n 3, 1) := by unfold zzOp; rw [zm_208]; decide +kernel
theorem zo_208_83 : zzOp 208 83 = some (.iastore, 1) := by unfold zzOp; rw [zm_208]; decide +kernel
theorem zo_208_84 : zzOp 208 84 = some (.iconst 1, 1) := by unfold zzOp; rw [zm_208]; decide +kernel
theorem zo_208_85 : zzOp 208 85 = some (.ireturn, 1) := by unfold zzOp; rw [zm_208]; decide +kernel
theorem zf_208_65 : zzGet zzFL (zzM 208).2.2.2.2.1 65 = some (7, 48) := by rw [zm_208]; decide +kernel
theorem zf_208_69 : zzGet zzFL (zzM 208).2.2.2.2.1 69 = some (7, 49) := by rw [zm_208]; decide +kernel
theorem zf_208_72 : zzGet zzFL (zzM 208).2.2.2.2.1 72 = some (7, 50) := by rw [zm_208]; decide +kernel
theorem zf_208_75 : zzGet zzFL (zzM 208).2.2.2.2.1 75 = some (7, 51) := by rw [zm_208]; decide +kernel
theorem zl_208_88 : zzGet zzML (zzM 208).2.2.2.2.1 88 = some (0, 136) := by rw [zm_208]; decide +kernel
theorem zl_208_334 : zzGet zzML (zzM 208).2.2.2.2.1 334 = some (0, 206) := by rw [zm_208]; decide +kernel
theorem zm_209 : zzM 209 = (yX7_copy, cX7_copy, 9, (some .int), 7, 6, 1, zzc_209) := rfl
theorem zr_209 : (zzM 209).2.2.2.1 = (some .int) := by rw [zm_209]
theorem zo_209_0 : zzOp 209 0 = some (.iload_n 1, 1) := by unfold zzOp; rw [zm_209]; decide +kernel
theorem zo_209_1 : zzOp 209 1 = some (.invokestatic 334, 3) := by unfold zzOp; rw [zm_209]; decide +kernel
theorem zo_209_4 : zzOp 209 4 = some (.ifCond .eq 10, 3) := by unfold zzOp; rw [zm_209]; decide +kernel
theorem zo_209_7 : zzOp 209 7 = some (.iload_n 3, 1) := by unfold zzOp; rw [zm_209]; decide +kernel
theorem zo_209_8 : zzOp 209 8 = some (.invokestatic 334, 3) := by unfold zzOp; rw [zm_209]; decide +kernel
theorem zo_209_11 : zzOp 209 11 = some (.ifCond .ne 6, 3) := by unfold zzOp; rw [zm_209]; decide +kernel
theorem zo_209_14 : zzOp 209 14 = some (.bipush (-2), 2) := by unfold zzOp; rw [zm_209]; decide +kernel
theorem zo_209_16 : zzOp 209 16 = some (.ireturn, 1) := by unfold zzOp; rw [zm_209]; decide +kernel
theorem zo_209_17 : zzOp 209 17 = some (.aload_n 0, 1) := by unfold zzOp; rw [zm_209]; decide +kernel
theorem zo_209_18 : zzOp 209 18 = some (.getfield 65, 3) := by unfold zzOp; rw [zm_209]; decide +kernel
theorem zo_209_21 : zzOp 209 21 = some (.iload_n 1, 1) := by unfold zzOp; rw [zm_209]; decide +kernel
theorem zo_209_22 : zzOp 209 22 = some (.baload, 1) := by unfold zzOp; rw [zm_209]; decide +kernel
theorem zo_209_23 : zzOp 209 23 = some (.ifCond .eq 12, 3) := by unfold zzOp; rw [zm_209]; decide +kernel
theorem zo_209_26 : zzOp 209 26 = some (.aload_n 0, 1) := by unfold zzOp; rw [zm_209]; decide +kernel
theorem zo_209_27 : zzOp 209 27 = some (.getfield 65, 3) := by unfold zzOp; rw [zm_209]; decide +kernel
theorem zo_209_30 : zzOp 209 30 = some (.iload_n 3, 1) := by unfold zzOp; rw [zm_209]; decide +kernel
theorem zo_209_31 : zzOp 209 31 = some (.baload, 1) := by unfold zzOp; rw [zm_209]; decide +kernel
theorem zo_209_32 : zzOp 209 32 = some (.ifCond .ne 6, 3) := by unfold zzOp; rw [zm_209]; decide +kernel
theorem zo_209_35 : zzOp 209 35 = some (.bipush (-11), 2) := by unfold zzOp; rw [zm_209]; decide +kernel
theorem zo_209_37 : zzOp 209 37 = some (.ireturn, 1) := by unfold zzOp; rw [zm_209]; decide +kernel
theorem zo_209_38 : zzOp 209 38 = some (.aload_n 0, 1) := by unfold zzOp; rw [zm_209]; decide +kernel
theorem zo_209_39 : zzOp 209 39 = some (.getfield 69, 3) := by unfold zzOp; rw [zm_209]; decide +kernel
theorem zo_209_42 : zzOp 209 42 = some (.iload_n 1, 1) := by unfold zzOp; rw [zm_209]; decide +kernel
theorem zo_209_43 : zzOp 209 43 = some (.iaload, 1) := by unfold zzOp; rw [zm_209]; decide +kernel
theorem zo_209_44 : zzOp 209 44 = some (.aload_n 0, 1) := by unfold zzOp; rw [zm_209]; decide +kernel
theorem zo_209_45 : zzOp 209 45 = some (.getfield 69, 3) := by unfold zzOp; rw [zm_209]; decide +kernel
theorem zo_209_48 : zzOp 209 48 = some (.iload_n 3, 1) := by unfold zzOp; rw [zm_209]; decide +kernel
theorem zo_209_49 : zzOp 209 49 = some (.iaload, 1) := by unfold zzOp; rw [zm_209]; decide +kernel
theorem zo_209_50 : zzOp 209 50 = some (.if_icmp .eq 6, 3) := by unfold zzOp; rw [zm_209]; decide +kernel
theorem zo_209_53 : zzOp 209 53 = some (.bipush (-13), 2) := by unfold zzOp; rw [zm_209]; decide +kernel
theorem zo_209_55 : zzOp 209 55 = some (.ireturn, 1) := by unfold zzOp; rw [zm_209]; decide +kernel
theorem zo_209_56 : zzOp 209 56 = some (.iload 5, 2) := by unfold zzOp; rw [zm_209]; decide +kernel
theorem zo_209_58 : zzOp 209 58 = some (.ifCond .lt 39, 3) := by unfold zzOp; rw [zm_209]; decide +kernel
theorem zo_209_61 : zzOp 209 61 = some (.iload_n 2, 1) := by unfold zzOp; rw [zm_209]; decide +kernel
theorem zo_209_62 : zzOp 209 62 = some (.ifCond .lt 35, 3) := by unfold zzOp; rw [zm_209]; decide +kernel
theorem zo_209_65 : zzOp 209 65 = some (.iload 4, 2) := by unfold zzOp; rw [zm_209]; decide +kernel
theorem zo_209_67 : zzOp 209 67 = some (.ifCond .lt 30, 3) := by unfold zzOp; rw [zm_209]; decide +kernel
theorem zo_209_70 : zzOp 209 70 = some (.iload_n 2, 1) := by unfold zzOp; rw [zm_209]; decide +kernel
theorem zo_209_71 : zzOp 209 71 = some (.aload_n 0, 1) := by unfold zzOp; rw [zm_209]; decide +kernel
theorem zo_209_72 : zzOp 209 72 = some (.getfield 72, 3) := by unfold zzOp; rw [zm_209]; decide +kernel
theorem zo_209_75 : zzOp 209 75 = some (.iload_n 1, 1) := by unfold zzOp; rw [zm_209]; decide +kernel
theorem zo_209_76 : zzOp 209 76 = some (.iaload, 1) := by unfold zzOp; rw [zm_209]; decide +kernel
theorem zo_209_77 : zzOp 209 77 = some (.iload 5, 2) := by unfold zzOp; rw [zm_209]; decide +kernel
theorem zo_209_79 : zzOp 209 79 = some (.isub, 1) := by unfold zzOp; rw [zm_209]; decide +kernel
theorem zo_209_80 : zzOp 209 80 = some (.if_icmp .gt 17, 3) := by unfold zzOp; rw [zm_209]; decide +kernel
theorem zo_209_83 : zzOp 209 83 = some (.iload 4, 2) := by unfold zzOp; rw [zm_209]; decide +kernel
theorem zo_209_85 : zzOp 209 85 = some (.aload_n 0, 1) := by unfold zzOp; rw [zm_209]; decide +kernel
theorem zo_209_86 : zzOp 209 86 = some (.getfield 72, 3) := by unfold zzOp; rw [zm_209]; decide +kernel
theorem zo_209_89 : zzOp 209 89 = some (.iload_n 3, 1) := by unfold zzOp; rw [zm_209]; decide +kernel
theorem zo_209_90 : zzOp 209 90 = some (.iaload, 1) := by unfold zzOp; rw [zm_209]; decide +kernel
theorem zo_209_91 : zzOp 209 91 = some (.iload 5, 2) := by unfold zzOp; rw [zm_209]; decide +kernel
theorem zo_209_93 : zzOp 209 93 = some (.isub, 1) := by unfold zzOp; rw [zm_209]; decide +kernel
theorem zo_209_94 : zzOp 209 94 = some (.if_icmp .le 6, 3) := by unfold zzOp; rw [zm_209]; decide +kernel
theorem zo_209_97 : zzOp 209 97 = some (.bipush (-12), 2) := by unfold zzOp; rw [zm_209]; decide +kernel
theorem zo_209_99 : zzOp 209 99 = some (.ireturn, 1) := by unfold zzOp; rw [zm_209]; decide +kernel
theorem zo_209_100 : zzOp 209 100 = some (.iload_n 1, 1) := by unfold zzOp; rw [zm_209]; decide +kernel
theorem zo_209_101 : zzOp 209 101 = some (.iload_n 3, 1) := by unfold zzOp; rw [zm_209]; decide +kernel
theorem zo_209_102 : zzOp 209 102 = some (.if_icmp .ne 13, 3) := by unfold zzOp; rw [zm_209]; decide +kernel
theorem zo_209_105 : zzOp 209 105 = some (.iload_n 2, 1) := by unfold zzOp; rw [zm_209]; decide +kernel
theorem zo_209_106 : zzOp 209 106 = some (.iload 4, 2) := by unfold zzOp; rw [zm_209]; decide +kernel
theorem zo_209_108 : zzOp 209 108 = some (.if_icmp .ge 7, 3) := by unfold zzOp; rw [zm_209]; decide +kernel
theorem zo_209_111 : zzOp 209 111 = some (.iconst 1, 1) := by unfold zzOp; rw [zm_209]; decide +kernel
theorem zo_209_112 : zzOp 209 112 = some (.goto 4, 3) := by unfold zzOp; rw [zm_209]; decide +kernel
theorem zo_209_115 : zzOp 209 115 = some (.iconst 0, 1) := by unfold zzOp; rw [zm_209]; decide +kernel
theorem zo_209_116 : zzOp 209 116 = some (.istore 6, 2) := by unfold zzOp; rw [zm_209]; decide +kernel
theorem zo_209_118 : zzOp 209 118 = some (.iconst 0, 1) := by unfold zzOp; rw [zm_209]; decide +kernel
theorem zo_209_119 : zzOp 209 119 = some (.istore 7, 2) := by unfold zzOp; rw [zm_209]; decide +kernel
theorem zo_209_121 : zzOp 209 121 = some (.iload 7, 2) := by unfold zzOp; rw [zm_209]; decide +kernel
theorem zo_209_123 : zzOp 209 123 = some (.iload 5, 2) := by unfold zzOp; rw [zm_209]; decide +kernel
theorem zo_209_125 : zzOp 209 125 = some (.if_icmp .ge 57, 3) := by unfold zzOp; rw [zm_209]; decide +kernel
theorem zo_209_128 : zzOp 209 128 = some (.iload 6, 2) := by unfold zzOp; rw [zm_209]; decide +kernel
theorem zo_209_130 : zzOp 209 130 = some (.ifCond .eq 13, 3) := by unfold zzOp; rw [zm_209]; decide +kernel
theorem zo_209_133 : zzOp 209 133 = some (.iload 5, 2) := by unfold zzOp; rw [zm_209]; decide +kernel
theorem zo_209_135 : zzOp 209 135 = some (.iconst 1, 1) := by unfold zzOp; rw [zm_209]; decide +kernel
theorem zo_209_136 : zzOp 209 136 = some (.isub, 1) := by unfold zzOp; rw [zm_209]; decide +kernel
theorem zo_209_137 : zzOp 209 137 = some (.iload 7, 2) := by unfold zzOp; rw [zm_209]; decide +kernel
theorem zo_209_139 : zzOp 209 139 = some (.isub, 1) := by unfold zzOp; rw [zm_209]; decide +kernel
theorem zo_209_140 : zzOp 209 140 = some (.goto 5, 3) := by unfold zzOp; rw [zm_209]; decide +kernel
theorem zo_209_143 : zzOp 209 143 = some (.iload 7, 2) := by unfold zzOp; rw [zm_209]; decide +kernel
theorem zo_209_145 : zzOp 209 145 = some (.istore 8, 2) := by unfold zzOp; rw [zm_209]; decide +kernel
theorem zo_209_147 : zzOp 209 147 = some (.aload_n 0, 1) := by unfold zzOp; rw [zm_209]; decide +kernel
theorem zo_209_148 : zzOp 209 148 = some (.getfield 75, 3) := by unfold zzOp; rw [zm_209]; decide +kernel
theorem zo_209_151 : zzOp 209 151 = some (.bipush 40, 2) := by unfold zzOp; rw [zm_209]; decide +kernel
theorem zo_209_153 : zzOp 209 153 = some (.iload_n 3, 1) := by unfold zzOp; rw [zm_209]; decide +kernel
theorem zo_209_154 : zzOp 209 154 = some (.imul, 1) := by unfold zzOp; rw [zm_209]; decide +kernel
theorem zo_209_155 : zzOp 209 155 = some (.iload 4, 2) := by unfold zzOp; rw [zm_209]; decide +kernel
theorem zo_209_157 : zzOp 209 157 = some (.iadd, 1) := by unfold zzOp; rw [zm_209]; decide +kernel
theorem zo_209_158 : zzOp 209 158 = some (.iload 8, 2) := by unfold zzOp; rw [zm_209]; decide +kernel
theorem zo_209_160 : zzOp 209 160 = some (.iadd, 1) := by unfold zzOp; rw [zm_209]; decide +kernel
theorem zo_209_161 : zzOp 209 161 = some (.aload_n 0, 1) := by unfold zzOp; rw [zm_209]; decide +kernel
theorem zo_209_162 : zzOp 209 162 = some (.getfield 75, 3) := by unfold zzOp; rw [zm_209]; decide +kernel
theorem zo_209_165 : zzOp 209 165 = some (.bipush 40, 2) := by unfold zzOp; rw [zm_209]; decide +kernel
theorem zo_209_167 : zzOp 209 167 = some (.iload_n 1, 1) := by unfold zzOp; rw [zm_209]; decide +kernel
theorem zo_209_168 : zzOp 209 168 = some (.imul, 1) := by unfold zzOp; rw [zm_209]; decide +kernel
theorem zo_209_169 : zzOp 209 169 = some (.iload_n 2, 1) := by unfold zzOp; rw [zm_209]; decide +kernel
theorem zo_209_170 : zzOp 209 170 = some (.iadd, 1) := by unfold zzOp; rw [zm_209]; decide +kernel
theorem zo_209_171 : zzOp 209 171 = some (.iload 8, 2) := by unfold zzOp; rw [zm_209]; decide +kernel
theorem zo_209_173 : zzOp 209 173 = some (.iadd, 1) := by unfold zzOp; rw [zm_209]; decide +kernel
theorem zo_209_174 : zzOp 209 174 = some (.iaload, 1) := by unfold zzOp; rw [zm_209]; decide +kernel
theorem zo_209_175 : zzOp 209 175 = some (.iastore, 1) := by unfold zzOp; rw [zm_209]; decide +kernel
theorem zo_209_176 : zzOp 209 176 = some (.iinc 7 1, 3) := by unfold zzOp; rw [zm_209]; decide +kernel
theorem zo_209_179 : zzOp 209 179 = some (.goto (-58), 3) := by unfold zzOp; rw [zm_209]; decide +kernel
theorem zo_209_182 : zzOp 209 182 = some (.iload 5, 2) := by unfold zzOp; rw [zm_209]; decide +kernel
theorem zo_209_184 : zzOp 209 184 = some (.ireturn, 1) := by unfold zzOp; rw [zm_209]; decide +kernel
theorem zf_209_65 : zzGet zzFL (zzM 209).2.2.2.2.1 65 = some (7, 48) := by rw [zm_209]; decide +kernel
theorem zf_209_69 : zzGet zzFL (zzM 209).2.2.2.2.1 69 = some (7, 49) := by rw [zm_209]; decide +kernel
theorem zf_209_72 : zzGet zzFL (zzM 209).2.2.2.2.1 72 = some (7, 50) := by rw [zm_209]; decide +kernel
theorem zf_209_75 : zzGet zzFL (zzM 209).2.2.2.2.1 75 = some (7, 51) := by rw [zm_209]; decide +kernel
theorem zl_209_334 : zzGet zzML (zzM 209).2.2.2.2.1 334 = some (0, 206) := by rw [zm_209]; decide +kernel
theorem zm_210 : zzM 210 = (yX7_passengers, cX7_passengers, 8, (some .int), 7, 5, 1, zzc_210) := rfl
theorem zr_210 : (zzM 210).2.2.2.1 = (some .int) := by rw [zm_210]
theorem zo_210_0 : zzOp 210 0 = some (.iload_n 1, 1) := by unfold zzOp; rw [zm_210]; decide +kernel
theorem zo_210_1 : zzOp 210 1 = some (.invokestatic 334, 3) := by unfold zzOp; rw [zm_210]; decide +kernel
theorem zo_210_4 : zzOp 210 4 = some (.ifCond .eq 28, 3) := by unfold zzOp; rw [zm_210]; decide +kernel
theorem zo_210_7 : zzOp 210 7 = some (.iload_n 2, 1) := by unfold zzOp; rw [zm_210]; decide +kernel
theorem zo_210_8 : zzOp 210 8 = some (.i2l, 1) := by unfold zzOp; rw [zm_210]; decide +kernel
theorem zo_210_9 : zzOp 210 9 = some (.lconst 0, 1) := by unfold zzOp; rw [zm_210]; decide +kernel
theorem zo_210_10 : zzOp 210 10 = some (.ldc2_w 284, 3) := by unfold zzOp; rw [zm_210]; decide +kernel
theorem zo_210_13 : zzOp 210 13 = some (.invokestatic 88, 3) := by unfold zzOp; rw [zm_210]; decide +kernel
theorem zo_210_16 : zzOp 210 16 = some (.ifCond .eq 16, 3) := by unfold zzOp; rw [zm_210]; decide +kernel
theorem zo_210_19 : zzOp 210 19 = some (.iload 4, 2) := by unfold zzOp; rw [zm_210]; decide +kernel
theorem zo_210_21 : zzOp 210 21 = some (.i2l, 1) := by unfold zzOp; rw [zm_210]; decide +kernel
theorem zo_210_22 : zzOp 210 22 = some (.lconst 0, 1) := by unfold zzOp; rw [zm_210]; decide +kernel
theorem zo_210_23 : zzOp 210 23 = some (.ldc2_w 378, 3) := by unfold zzOp; rw [zm_210]; decide +kernel
theorem zo_210_26 : zzOp 210 26 = some (.invokestatic 88, 3) := by unfold zzOp; rw [zm_210]; decide +kernel
theorem zo_210_29 : zzOp 210 29 = some (.ifCond .ne 6, 3) := by unfold zzOp; rw [zm_210]; decide +kernel
theorem zo_210_32 : zzOp 210 32 = some (.bipush (-2), 2) := by unfold zzOp; rw [zm_210]; decide +kernel
theorem zo_210_34 : zzOp 210 34 = some (.ireturn, 1) := by unfold zzOp; rw [zm_210]; decide +kernel
theorem zo_210_35 : zzOp 210 35 = some (.aload_n 0, 1) := by unfold zzOp; rw [zm_210]; decide +kernel
theorem zo_210_36 : zzOp 210 36 = some (.getfield 65, 3) := by unfold zzOp; rw [zm_210]; decide +kernel
theorem zo_210_39 : zzOp 210 39 = some (.iload_n 1, 1) := by unfold zzOp; rw [zm_210]; decide +kernel
theorem zo_210_40 : zzOp 210 40 = some (.baload, 1) := by unfold zzOp; rw [zm_210]; decide +kernel
theorem zo_210_41 : zzOp 210 41 = some (.ifCond .eq 16, 3) := by unfold zzOp; rw [zm_210]; decide +kernel
theorem zo_210_44 : zzOp 210 44 = some (.aload_n 0, 1) := by unfold zzOp; rw [zm_210]; decide +kernel
theorem zo_210_45 : zzOp 210 45 = some (.getfield 69, 3) := by unfold zzOp; rw [zm_210]; decide +kernel
theorem zo_210_48 : zzOp 210 48 = some (.iload_n 1, 1) := by unfold zzOp; rw [zm_210]; decide +kernel
theorem zo_210_49 : zzOp 210 49 = some (.iaload, 1) := by unfold zzOp; rw [zm_210]; decide +kernel
theorem zo_210_50 : zzOp 210 50 = some (.iload_n 2, 1) := by unfold zzOp; rw [zm_210]; decide +kernel
theorem zo_210_51 : zzOp 210 51 = some (.if_icmp .eq 6, 3) := by unfold zzOp; rw [zm_210]; decide +kernel
theorem zo_210_54 : zzOp 210 54 = some (.bipush (-13), 2) := by unfold zzOp; rw [zm_210]; decide +kernel
theorem zo_210_56 : zzOp 210 56 = some (.ireturn, 1) := by unfold zzOp; rw [zm_210]; decide +kernel
theorem zo_210_57 : zzOp 210 57 = some (.aload_n 0, 1) := by unfold zzOp; rw [zm_210]; decide +kernel
theorem zo_210_58 : zzOp 210 58 = some (.getfield 65, 3) := by unfold zzOp; rw [zm_210]; decide +kernel
theorem zo_210_61 : zzOp 210 61 = some (.iload_n 1, 1) := by unfold zzOp; rw [zm_210]; decide +kernel
theorem zo_210_62 : zzOp 210 62 = some (.baload, 1) := by unfold zzOp; rw [zm_210]; decide +kernel
theorem zo_210_63 : zzOp 210 63 = some (.ifCond .ne 6, 3) := by unfold zzOp; rw [zm_210]; decide +kernel
theorem zo_210_66 : zzOp 210 66 = some (.bipush (-11), 2) := by unfold zzOp; rw [zm_210]; decide +kernel
theorem zo_210_68 : zzOp 210 68 = some (.ireturn, 1) := by unfold zzOp; rw [zm_210]; decide +kernel
theorem zo_210_69 : zzOp 210 69 = some (.iconst 0, 1) := by unfold zzOp; rw [zm_210]; decide +kernel
theorem zo_210_70 : zzOp 210 70 = some (.istore 5, 2) := by unfold zzOp; rw [zm_210]; decide +kernel
theorem zo_210_72 : zzOp 210 72 = some (.iconst 0, 1) := by unfold zzOp; rw [zm_210]; decide +kernel
theorem zo_210_73 : zzOp 210 73 = some (.istore 6, 2) := by unfold zzOp; rw [zm_210]; decide +kernel
theorem zo_210_75 : zzOp 210 75 = some (.iload 6, 2) := by unfold zzOp; rw [zm_210]; decide +kernel
theorem zo_210_77 : zzOp 210 77 = some (.iload 4, 2) := by unfold zzOp; rw [zm_210]; decide +kernel
theorem zo_210_79 : zzOp 210 79 = some (.if_icmp .ge 79, 3) := by unfold zzOp; rw [zm_210]; decide +kernel
theorem zo_210_82 : zzOp 210 82 = some (.iload_n 3, 1) := by unfold zzOp; rw [zm_210]; decide +kernel
theorem zo_210_83 : zzOp 210 83 = some (.ifCond .lt 20, 3) := by unfold zzOp; rw [zm_210]; decide +kernel
theorem zo_210_86 : zzOp 210 86 = some (.iload_n 3, 1) := by unfold zzOp; rw [zm_210]; decide +kernel
theorem zo_210_87 : zzOp 210 87 = some (.aload_n 0, 1) := by unfold zzOp; rw [zm_210]; decide +kernel
theorem zo_210_88 : zzOp 210 88 = some (.getfield 72, 3) := by unfold zzOp; rw [zm_210]; decide +kernel
theorem zo_210_91 : zzOp 210 91 = some (.iload_n 1, 1) := by unfold zzOp; rw [zm_210]; decide +kernel
theorem zo_210_92 : zzOp 210 92 = some (.iaload, 1) := by unfold zzOp; rw [zm_210]; decide +kernel
theorem zo_210_93 : zzOp 210 93 = some (.iconst 2, 1) := by unfold zzOp; rw [zm_210]; decide +kernel
theorem zo_210_94 : zzOp 210 94 = some (.iload 6, 2) := by unfold zzOp; rw [zm_210]; decide +kernel
theorem zo_210_96 : zzOp 210 96 = some (.imul, 1) := by unfold zzOp; rw [zm_210]; decide +kernel
theorem zo_210_97 : zzOp 210 97 = some (.isub, 1) := by unfold zzOp; rw [zm_210]; decide +kernel
theorem zo_210_98 : zzOp 210 98 = some (.iconst 2, 1) := by unfold zzOp; rw [zm_210]; decide +kernel
theorem zo_210_99 : zzOp 210 99 = some (.isub, 1) := by unfold zzOp; rw [zm_210]; decide +kernel
theorem zo_210_100 : zzOp 210 100 = some (.if_icmp .le 6, 3) := by unfold zzOp; rw [zm_210]; decide +kernel
theorem zo_210_103 : zzOp 210 103 = some (.bipush (-12), 2) := by unfold zzOp; rw [zm_210]; decide +kernel
theorem zo_210_105 : zzOp 210 105 = some (.ireturn, 1) := by unfold zzOp; rw [zm_210]; decide +kernel
theorem zo_210_106 : zzOp 210 106 = some (.bipush 40, 2) := by unfold zzOp; rw [zm_210]; decide +kernel
theorem zo_210_108 : zzOp 210 108 = some (.iload_n 1, 1) := by unfold zzOp; rw [zm_210]; decide +kernel
theorem zo_210_109 : zzOp 210 109 = some (.imul, 1) := by unfold zzOp; rw [zm_210]; decide +kernel
theorem zo_210_110 : zzOp 210 110 = some (.iload_n 3, 1) := by unfold zzOp; rw [zm_210]; decide +kernel
theorem zo_210_111 : zzOp 210 111 = some (.iadd, 1) := by unfold zzOp; rw [zm_210]; decide +kernel
theorem zo_210_112 : zzOp 210 112 = some (.iconst 2, 1) := by unfold zzOp; rw [zm_210]; decide +kernel
theorem zo_210_113 : zzOp 210 113 = some (.iload 6, 2) := by unfold zzOp; rw [zm_210]; decide +kernel
theorem zo_210_115 : zzOp 210 115 = some (.imul, 1) := by unfold zzOp; rw [zm_210]; decide +kernel
theorem zo_210_116 : zzOp 210 116 = some (.iadd, 1) := by unfold zzOp; rw [zm_210]; decide +kernel
theorem zo_210_117 : zzOp 210 117 = some (.istore 7, 2) := by unfold zzOp; rw [zm_210]; decide +kernel
theorem zo_210_119 : zzOp 210 119 = some (.iload 5, 2) := by unfold zzOp; rw [zm_210]; decide +kernel
theorem zo_210_121 : zzOp 210 121 = some (.aload_n 0, 1) := by unfold zzOp; rw [zm_210]; decide +kernel
theorem zo_210_122 : zzOp 210 122 = some (.aload_n 0, 1) := by unfold zzOp; rw [zm_210]; decide +kernel
theorem zo_210_123 : zzOp 210 123 = some (.getfield 75, 3) := by unfold zzOp; rw [zm_210]; decide +kernel
theorem zo_210_126 : zzOp 210 126 = some (.iload 7, 2) := by unfold zzOp; rw [zm_210]; decide +kernel
theorem zo_210_128 : zzOp 210 128 = some (.iaload, 1) := by unfold zzOp; rw [zm_210]; decide +kernel
theorem zo_210_129 : zzOp 210 129 = some (.aload_n 0, 1) := by unfold zzOp; rw [zm_210]; decide +kernel
theorem zo_210_130 : zzOp 210 130 = some (.getfield 75, 3) := by unfold zzOp; rw [zm_210]; decide +kernel
theorem zo_210_133 : zzOp 210 133 = some (.iload 7, 2) := by unfold zzOp; rw [zm_210]; decide +kernel
theorem zo_210_135 : zzOp 210 135 = some (.iconst 1, 1) := by unfold zzOp; rw [zm_210]; decide +kernel
theorem zo_210_136 : zzOp 210 136 = some (.iadd, 1) := by unfold zzOp; rw [zm_210]; decide +kernel
theorem zo_210_137 : zzOp 210 137 = some (.iaload, 1) := by unfold zzOp; rw [zm_210]; decide +kernel
theorem zo_210_138 : zzOp 210 138 = some (.invokevirtual 380, 3) := by unfold zzOp; rw [zm_210]; decide +kernel
theorem zo_210_141 : zzOp 210 141 = some (.ifCond .lt 7, 3) := by unfold zzOp; rw [zm_210]; decide +kernel
theorem zo_210_144 : zzOp 210 144 = some (.iconst 1, 1) := by unfold zzOp; rw [zm_210]; decide +kernel
theorem zo_210_145 : zzOp 210 145 = some (.goto 4, 3) := by unfold zzOp; rw [zm_210]; decide +kernel
theorem zo_210_148 : zzOp 210 148 = some (.iconst 0, 1) := by unfold zzOp; rw [zm_210]; decide +kernel
theorem zo_210_149 : zzOp 210 149 = some (.iadd, 1) := by unfold zzOp; rw [zm_210]; decide +kernel
theorem zo_210_150 : zzOp 210 150 = some (.istore 5, 2) := by unfold zzOp; rw [zm_210]; decide +kernel
theorem zo_210_152 : zzOp 210 152 = some (.iinc 6 1, 3) := by unfold zzOp; rw [zm_210]; decide +kernel
theorem zo_210_155 : zzOp 210 155 = some (.goto (-80), 3) := by unfold zzOp; rw [zm_210]; decide +kernel
theorem zo_210_158 : zzOp 210 158 = some (.iload 5, 2) := by unfold zzOp; rw [zm_210]; decide +kernel
theorem zo_210_160 : zzOp 210 160 = some (.ireturn, 1) := by unfold zzOp; rw [zm_210]; decide +kernel
theorem zf_210_65 : zzGet zzFL (zzM 210).2.2.2.2.1 65 = some (7, 48) := by rw [zm_210]; decide +kernel
theorem zf_210_69 : zzGet zzFL (zzM 210).2.2.2.2.1 69 = some (7, 49) := by rw [zm_210]; decide +kernel
theorem zf_210_72 : zzGet zzFL (zzM 210).2.2.2.2.1 72 = some (7, 50) := by rw [zm_210]; decide +kernel
theorem zf_210_75 : zzGet zzFL (zzM 210).2.2.2.2.1 75 = some (7, 51) := by rw [zm_210]; decide +kernel
theorem zl_210_88 : zzGet zzML (zzM 210).2.2.2.2.1 88 = some (0, 136) := by rw [zm_210]; decide +kernel
theorem zl_210_334 : zzGet zzML (zzM 210).2.2.2.2.1 334 = some (0, 206) := by rw [zm_210]; decide +kernel
theorem zl_210_380 : zzGet zzML (zzM 210).2.2.2.2.1 380 = some (2, 145) := by rw [zm_210]; decide +kernel
theorem zc_210_284 : zzGet zzKL (zzM 210).2.2.2.2.1 284 = some (2) := by rw [zm_210]; decide +kernel
theorem zc_210_378 : zzGet zzKL (zzM 210).2.2.2.2.1 378 = some (8) := by rw [zm_210]; decide +kernel
theorem zm_211 : zzM 211 = (yX7_over, cX7_over, 1, (some .int), 7, 1, 0, zzc_211) := rfl
theorem zr_211 : (zzM 211).2.2.2.1 = (some .int) := by rw [zm_211]
theorem zo_211_0 : zzOp 211 0 = some (.iload_n 0, 1) := by unfold zzOp; rw [zm_211]; decide +kernel
theorem zo_211_1 : zzOp 211 1 = some (.ifCond .ne 7, 3) := by unfold zzOp; rw [zm_211]; decide +kernel
theorem zo_211_4 : zzOp 211 4 = some (.iconst (-1), 1) := by unfold zzOp; rw [zm_211]; decide +kernel
theorem zo_211_5 : zzOp 211 5 = some (.goto 22, 3) := by unfold zzOp; rw [zm_211]; decide +kernel
theorem zo_211_8 : zzOp 211 8 = some (.iload_n 0, 1) := by unfold zzOp; rw [zm_211]; decide +kernel
theorem zo_211_9 : zzOp 211 9 = some (.iconst 3, 1) := by unfold zzOp; rw [zm_211]; decide +kernel
theorem zo_211_10 : zzOp 211 10 = some (.if_icmp .ne 7, 3) := by unfold zzOp; rw [zm_211]; decide +kernel
theorem zo_211_13 : zzOp 211 13 = some (.iconst 1, 1) := by unfold zzOp; rw [zm_211]; decide +kernel
theorem zo_211_14 : zzOp 211 14 = some (.goto 13, 3) := by unfold zzOp; rw [zm_211]; decide +kernel
theorem zo_211_17 : zzOp 211 17 = some (.iload_n 0, 1) := by unfold zzOp; rw [zm_211]; decide +kernel
theorem zo_211_18 : zzOp 211 18 = some (.iconst 4, 1) := by unfold zzOp; rw [zm_211]; decide +kernel
theorem zo_211_19 : zzOp 211 19 = some (.if_icmp .ne 7, 3) := by unfold zzOp; rw [zm_211]; decide +kernel
theorem zo_211_22 : zzOp 211 22 = some (.iconst 2, 1) := by unfold zzOp; rw [zm_211]; decide +kernel
theorem zo_211_23 : zzOp 211 23 = some (.goto 4, 3) := by unfold zzOp; rw [zm_211]; decide +kernel
theorem zo_211_26 : zzOp 211 26 = some (.iconst 0, 1) := by unfold zzOp; rw [zm_211]; decide +kernel
theorem zo_211_27 : zzOp 211 27 = some (.ireturn, 1) := by unfold zzOp; rw [zm_211]; decide +kernel
theorem zm_212 : zzM 212 = (yX7_taken, cX7_taken, 4, (some .int), 7, 3, 1, zzc_212) := rfl
theorem zr_212 : (zzM 212).2.2.2.1 = (some .int) := by rw [zm_212]
theorem zo_212_0 : zzOp 212 0 = some (.iload_n 2, 1) := by unfold zzOp; rw [zm_212]; decide +kernel
theorem zo_212_1 : zzOp 212 1 = some (.i2l, 1) := by unfold zzOp; rw [zm_212]; decide +kernel
theorem zo_212_2 : zzOp 212 2 = some (.lconst 0, 1) := by unfold zzOp; rw [zm_212]; decide +kernel
theorem zo_212_3 : zzOp 212 3 = some (.ldc2_w 124, 3) := by unfold zzOp; rw [zm_212]; decide +kernel
theorem zo_212_6 : zzOp 212 6 = some (.invokestatic 88, 3) := by unfold zzOp; rw [zm_212]; decide +kernel
theorem zo_212_9 : zzOp 212 9 = some (.ifCond .ne 6, 3) := by unfold zzOp; rw [zm_212]; decide +kernel
theorem zo_212_12 : zzOp 212 12 = some (.bipush (-2), 2) := by unfold zzOp; rw [zm_212]; decide +kernel
theorem zo_212_14 : zzOp 212 14 = some (.ireturn, 1) := by unfold zzOp; rw [zm_212]; decide +kernel
theorem zo_212_15 : zzOp 212 15 = some (.aload_n 0, 1) := by unfold zzOp; rw [zm_212]; decide +kernel
theorem zo_212_16 : zzOp 212 16 = some (.iload_n 1, 1) := by unfold zzOp; rw [zm_212]; decide +kernel
theorem zo_212_17 : zzOp 212 17 = some (.invokevirtual 94, 3) := by unfold zzOp; rw [zm_212]; decide +kernel
theorem zo_212_20 : zzOp 212 20 = some (.ifCond .ne 6, 3) := by unfold zzOp; rw [zm_212]; decide +kernel
theorem zo_212_23 : zzOp 212 23 = some (.bipush (-11), 2) := by unfold zzOp; rw [zm_212]; decide +kernel
theorem zo_212_25 : zzOp 212 25 = some (.ireturn, 1) := by unfold zzOp; rw [zm_212]; decide +kernel
theorem zo_212_26 : zzOp 212 26 = some (.aload_n 0, 1) := by unfold zzOp; rw [zm_212]; decide +kernel
theorem zo_212_27 : zzOp 212 27 = some (.getfield 26, 3) := by unfold zzOp; rw [zm_212]; decide +kernel
theorem zo_212_30 : zzOp 212 30 = some (.iload_n 1, 1) := by unfold zzOp; rw [zm_212]; decide +kernel
theorem zo_212_31 : zzOp 212 31 = some (.iaload, 1) := by unfold zzOp; rw [zm_212]; decide +kernel
theorem zo_212_32 : zzOp 212 32 = some (.istore_n 3, 1) := by unfold zzOp; rw [zm_212]; decide +kernel
theorem zo_212_33 : zzOp 212 33 = some (.iload_n 3, 1) := by unfold zzOp; rw [zm_212]; decide +kernel
theorem zo_212_34 : zzOp 212 34 = some (.iconst (-1), 1) := by unfold zzOp; rw [zm_212]; decide +kernel
theorem zo_212_35 : zzOp 212 35 = some (.if_icmp .eq 16, 3) := by unfold zzOp; rw [zm_212]; decide +kernel
theorem zo_212_38 : zzOp 212 38 = some (.iload_n 3, 1) := by unfold zzOp; rw [zm_212]; decide +kernel
theorem zo_212_39 : zzOp 212 39 = some (.iload_n 2, 1) := by unfold zzOp; rw [zm_212]; decide +kernel
theorem zo_212_40 : zzOp 212 40 = some (.if_icmp .eq 11, 3) := by unfold zzOp; rw [zm_212]; decide +kernel
theorem zo_212_43 : zzOp 212 43 = some (.iload_n 3, 1) := by unfold zzOp; rw [zm_212]; decide +kernel
theorem zo_212_44 : zzOp 212 44 = some (.invokestatic 383, 3) := by unfold zzOp; rw [zm_212]; decide +kernel
theorem zo_212_47 : zzOp 212 47 = some (.istore_n 3, 1) := by unfold zzOp; rw [zm_212]; decide +kernel
theorem zo_212_48 : zzOp 212 48 = some (.goto (-15), 3) := by unfold zzOp; rw [zm_212]; decide +kernel
theorem zo_212_51 : zzOp 212 51 = some (.iload_n 3, 1) := by unfold zzOp; rw [zm_212]; decide +kernel
theorem zo_212_52 : zzOp 212 52 = some (.iload_n 2, 1) := by unfold zzOp; rw [zm_212]; decide +kernel
theorem zo_212_53 : zzOp 212 53 = some (.if_icmp .ne 12, 3) := by unfold zzOp; rw [zm_212]; decide +kernel
theorem zo_212_56 : zzOp 212 56 = some (.aload_n 0, 1) := by unfold zzOp; rw [zm_212]; decide +kernel
theorem zo_212_57 : zzOp 212 57 = some (.getfield 29, 3) := by unfold zzOp; rw [zm_212]; decide +kernel
theorem zo_212_60 : zzOp 212 60 = some (.iload_n 1, 1) := by unfold zzOp; rw [zm_212]; decide +kernel
theorem zo_212_61 : zzOp 212 61 = some (.iaload, 1) := by unfold zzOp; rw [zm_212]; decide +kernel
theorem zo_212_62 : zzOp 212 62 = some (.goto 5, 3) := by unfold zzOp; rw [zm_212]; decide +kernel
theorem zo_212_65 : zzOp 212 65 = some (.bipush (-13), 2) := by unfold zzOp; rw [zm_212]; decide +kernel
theorem zo_212_67 : zzOp 212 67 = some (.ireturn, 1) := by unfold zzOp; rw [zm_212]; decide +kernel
theorem zf_212_26 : zzGet zzFL (zzM 212).2.2.2.2.1 26 = some (7, 9) := by rw [zm_212]; decide +kernel
theorem zf_212_29 : zzGet zzFL (zzM 212).2.2.2.2.1 29 = some (7, 10) := by rw [zm_212]; decide +kernel
theorem zl_212_88 : zzGet zzML (zzM 212).2.2.2.2.1 88 = some (0, 136) := by rw [zm_212]; decide +kernel
theorem zl_212_94 : zzGet zzML (zzM 212).2.2.2.2.1 94 = some (2, 140) := by rw [zm_212]; decide +kernel
theorem zl_212_383 : zzGet zzML (zzM 212).2.2.2.2.1 383 = some (0, 211) := by rw [zm_212]; decide +kernel
theorem zc_212_124 : zzGet zzKL (zzM 212).2.2.2.2.1 124 = some (5) := by rw [zm_212]; decide +kernel
theorem zm_213 : zzM 213 = (yL_law, cL_law, 4, (some .boolean), 8, 1, 0, zzc_213) := rfl
theorem zr_213 : (zzM 213).2.2.2.1 = (some .boolean) := by rw [zm_213]
theorem zo_213_18 : zzOp 213 18 = some (.iload_n 3, 1) := by unfold zzOp; rw [zm_213]; decide +kernel
theorem zo_213_19 : zzOp 213 19 = some (.aload_n 0, 1) := by unfold zzOp; rw [zm_213]; decide +kernel
theorem zo_213_20 : zzOp 213 20 = some (.arraylength, 1) := by unfold zzOp; rw [zm_213]; decide +kernel
theorem zo_213_21 : zzOp 213 21 = some (.bipush 6, 2) := by unfold zzOp; rw [zm_213]; decide +kernel
theorem zo_213_23 : zzOp 213 23 = some (.isub, 1) := by unfold zzOp; rw [zm_213]; decide +kernel
theorem zo_213_24 : zzOp 213 24 = some (.if_icmp .gt 1007, 3) := by unfold zzOp; rw [zm_213]; decide +kernel
theorem zo_213_27 : zzOp 213 27 = some (.aload_n 0, 1) := by unfold zzOp; rw [zm_213]; decide +kernel
theorem zo_213_28 : zzOp 213 28 = some (.iload_n 3, 1) := by unfold zzOp; rw [zm_213]; decide +kernel
theorem zo_213_29 : zzOp 213 29 = some (.iaload, 1) := by unfold zzOp; rw [zm_213]; decide +kernel
theorem zo_213_30 : zzOp 213 30 = some (.bipush 31, 2) := by unfold zzOp; rw [zm_213]; decide +kernel
theorem zo_213_32 : zzOp 213 32 = some (.iand, 1) := by unfold zzOp; rw [zm_213]; decide +kernel
theorem zo_213_33 : zzOp 213 33 = some (.tableswitch 992 0 27 #[127, 170, 203, 236, 269, 292, 315, 328, 351, 374, 407, 440, 463, 486, 519, 552, 585, 618, 641, 664, 708, 721, 734, 757, 800, 843, 906, 959], 127) := by unfold zzOp; rw [zm_213]; decide +kernel
theorem zo_213_160 : zzOp 213 160 = some (.aload_n 1, 1) := by unfold zzOp; rw [zm_213]; decide +kernel
theorem zo_213_161 : zzOp 213 161 = some (.aload_n 0, 1) := by unfold zzOp; rw [zm_213]; decide +kernel
theorem zo_213_162 : zzOp 213 162 = some (.iload_n 3, 1) := by unfold zzOp; rw [zm_213]; decide +kernel
theorem zo_213_163 : zzOp 213 163 = some (.iconst 1, 1) := by unfold zzOp; rw [zm_213]; decide +kernel
theorem zo_213_164 : zzOp 213 164 = some (.iadd, 1) := by unfold zzOp; rw [zm_213]; decide +kernel
theorem zo_213_165 : zzOp 213 165 = some (.iaload, 1) := by unfold zzOp; rw [zm_213]; decide +kernel
theorem zo_213_166 : zzOp 213 166 = some (.aload_n 0, 1) := by unfold zzOp; rw [zm_213]; decide +kernel
theorem zo_213_167 : zzOp 213 167 = some (.iload_n 3, 1) := by unfold zzOp; rw [zm_213]; decide +kernel
theorem zo_213_168 : zzOp 213 168 = some (.iconst 2, 1) := by unfold zzOp; rw [zm_213]; decide +kernel
theorem zo_213_169 : zzOp 213 169 = some (.iadd, 1) := by unfold zzOp; rw [zm_213]; decide +kernel
theorem zo_213_170 : zzOp 213 170 = some (.iaload, 1) := by unfold zzOp; rw [zm_213]; decide +kernel
theorem zo_213_171 : zzOp 213 171 = some (.aload_n 0, 1) := by unfold zzOp; rw [zm_213]; decide +kernel
theorem zo_213_172 : zzOp 213 172 = some (.iload_n 3, 1) := by unfold zzOp; rw [zm_213]; decide +kernel
theorem zo_213_173 : zzOp 213 173 = some (.iconst 3, 1) := by unfold zzOp; rw [zm_213]; decide +kernel
theorem zo_213_174 : zzOp 213 174 = some (.iadd, 1) := by unfold zzOp; rw [zm_213]; decide +kernel
theorem zo_213_175 : zzOp 213 175 = some (.iaload, 1) := by unfold zzOp; rw [zm_213]; decide +kernel
theorem zo_213_176 : zzOp 213 176 = some (.invokevirtual 13, 3) := by unfold zzOp; rw [zm_213]; decide +kernel
theorem zo_213_179 : zzOp 213 179 = some (.aload_n 2, 1) := by unfold zzOp; rw [zm_213]; decide +kernel
theorem zo_213_180 : zzOp 213 180 = some (.aload_n 0, 1) := by unfold zzOp; rw [zm_213]; decide +kernel
theorem zo_213_181 : zzOp 213 181 = some (.iload_n 3, 1) := by unfold zzOp; rw [zm_213]; decide +kernel
theorem zo_213_182 : zzOp 213 182 = some (.iconst 1, 1) := by unfold zzOp; rw [zm_213]; decide +kernel
theorem zo_213_183 : zzOp 213 183 = some (.iadd, 1) := by unfold zzOp; rw [zm_213]; decide +kernel
theorem zo_213_184 : zzOp 213 184 = some (.iaload, 1) := by unfold zzOp; rw [zm_213]; decide +kernel
theorem zo_213_185 : zzOp 213 185 = some (.aload_n 0, 1) := by unfold zzOp; rw [zm_213]; decide +kernel
theorem zo_213_186 : zzOp 213 186 = some (.iload_n 3, 1) := by unfold zzOp; rw [zm_213]; decide +kernel
theorem zo_213_187 : zzOp 213 187 = some (.iconst 2, 1) := by unfold zzOp; rw [zm_213]; decide +kernel
theorem zo_213_188 : zzOp 213 188 = some (.iadd, 1) := by unfold zzOp; rw [zm_213]; decide +kernel
theorem zo_213_189 : zzOp 213 189 = some (.iaload, 1) := by unfold zzOp; rw [zm_213]; decide +kernel
theorem zo_213_190 : zzOp 213 190 = some (.aload_n 0, 1) := by unfold zzOp; rw [zm_213]; decide +kernel
theorem zo_213_191 : zzOp 213 191 = some (.iload_n 3, 1) := by unfold zzOp; rw [zm_213]; decide +kernel
theorem zo_213_192 : zzOp 213 192 = some (.iconst 3, 1) := by unfold zzOp; rw [zm_213]; decide +kernel
theorem zo_213_193 : zzOp 213 193 = some (.iadd, 1) := by unfold zzOp; rw [zm_213]; decide +kernel
theorem zo_213_194 : zzOp 213 194 = some (.iaload, 1) := by unfold zzOp; rw [zm_213]; decide +kernel
theorem zo_213_195 : zzOp 213 195 = some (.invokevirtual 17, 3) := by unfold zzOp; rw [zm_213]; decide +kernel
theorem zo_213_198 : zzOp 213 198 = some (.if_icmp .eq 827, 3) := by unfold zzOp; rw [zm_213]; decide +kernel
theorem zo_213_201 : zzOp 213 201 = some (.iconst 0, 1) := by unfold zzOp; rw [zm_213]; decide +kernel
theorem zo_213_202 : zzOp 213 202 = some (.ireturn, 1) := by unfold zzOp; rw [zm_213]; decide +kernel
theorem zo_213_203 : zzOp 213 203 = some (.aload_n 1, 1) := by unfold zzOp; rw [zm_213]; decide +kernel
theorem zo_213_204 : zzOp 213 204 = some (.aload_n 0, 1) := by unfold zzOp; rw [zm_213]; decide +kernel
theorem zo_213_205 : zzOp 213 205 = some (.iload_n 3, 1) := by unfold zzOp; rw [zm_213]; decide +kernel
theorem zo_213_206 : zzOp 213 206 = some (.iconst 1, 1) := by unfold zzOp; rw [zm_213]; decide +kernel
theorem zo_213_207 : zzOp 213 207 = some (.iadd, 1) := by unfold zzOp; rw [zm_213]; decide +kernel
theorem zo_213_208 : zzOp 213 208 = some (.iaload, 1) := by unfold zzOp; rw [zm_213]; decide +kernel
theorem zo_213_209 : zzOp 213 209 = some (.aload_n 0, 1) := by unfold zzOp; rw [zm_213]; decide +kernel
theorem zo_213_210 : zzOp 213 210 = some (.iload_n 3, 1) := by unfold zzOp; rw [zm_213]; decide +kernel
theorem zo_213_211 : zzOp 213 211 = some (.iconst 2, 1) := by unfold zzOp; rw [zm_213]; decide +kernel
theorem zo_213_212 : zzOp 213 212 = some (.iadd, 1) := by unfold zzOp; rw [zm_213]; decide +kernel
theorem zo_213_213 : zzOp 213 213 = some (.iaload, 1) := by unfold zzOp; rw [zm_213]; decide +kernel
theorem zo_213_214 : zzOp 213 214 = some (.invokevirtual 18, 3) := by unfold zzOp; rw [zm_213]; decide +kernel
theorem zo_213_217 : zzOp 213 217 = some (.aload_n 2, 1) := by unfold zzOp; rw [zm_213]; decide +kernel
theorem zo_213_218 : zzOp 213 218 = some (.aload_n 0, 1) := by unfold zzOp; rw [zm_213]; decide +kernel
theorem zo_213_219 : zzOp 213 219 = some (.iload_n 3, 1) := by unfold zzOp; rw [zm_213]; decide +kernel
theorem zo_213_220 : zzOp 213 220 = some (.iconst 1, 1) := by unfold zzOp; rw [zm_213]; decide +kernel
theorem zo_213_221 : zzOp 213 221 = some (.iadd, 1) := by unfold zzOp; rw [zm_213]; decide +kernel
theorem zo_213_222 : zzOp 213 222 = some (.iaload, 1) := by unfold zzOp; rw [zm_213]; decide +kernel
theorem zo_213_223 : zzOp 213 223 = some (.aload_n 0, 1) := by unfold zzOp; rw [zm_213]; decide +kernel
theorem zo_213_224 : zzOp 213 224 = some (.iload_n 3, 1) := by unfold zzOp; rw [zm_213]; decide +kernel
theorem zo_213_225 : zzOp 213 225 = some (.iconst 2, 1) := by unfold zzOp; rw [zm_213]; decide +kernel
theorem zo_213_226 : zzOp 213 226 = some (.iadd, 1) := by unfold zzOp; rw [zm_213]; decide +kernel
theorem zo_213_227 : zzOp 213 227 = some (.iaload, 1) := by unfold zzOp; rw [zm_213]; decide +kernel
theorem zo_213_228 : zzOp 213 228 = some (.invokevirtual 22, 3) := by unfold zzOp; rw [zm_213]; decide +kernel
theorem zo_213_231 : zzOp 213 231 = some (.if_icmp .eq 794, 3) := by unfold zzOp; rw [zm_213]; decide +kernel
theorem zo_213_234 : zzOp 213 234 = some (.iconst 0, 1) := by unfold zzOp; rw [zm_213]; decide +kernel
theorem zo_213_235 : zzOp 213 235 = some (.ireturn, 1) := by unfold zzOp; rw [zm_213]; decide +kernel
theorem zo_213_236 : zzOp 213 236 = some (.aload_n 1, 1) := by unfold zzOp; rw [zm_213]; decide +kernel
theorem zo_213_237 : zzOp 213 237 = some (.aload_n 0, 1) := by unfold zzOp; rw [zm_213]; decide +kernel
theorem zo_213_238 : zzOp 213 238 = some (.iload_n 3, 1) := by unfold zzOp; rw [zm_213]; decide +kernel
theorem zo_213_239 : zzOp 213 239 = some (.iconst 1, 1) := by unfold zzOp; rw [zm_213]; decide +kernel
theorem zo_213_240 : zzOp 213 240 = some (.iadd, 1) := by unfold zzOp; rw [zm_213]; decide +kernel
theorem zo_213_241 : zzOp 213 241 = some (.iaload, 1) := by unfold zzOp; rw [zm_213]; decide +kernel
theorem zo_213_242 : zzOp 213 242 = some (.aload_n 0, 1) := by unfold zzOp; rw [zm_213]; decide +kernel
theorem zo_213_243 : zzOp 213 243 = some (.iload_n 3, 1) := by unfold zzOp; rw [zm_213]; decide +kernel
theorem zo_213_244 : zzOp 213 244 = some (.iconst 2, 1) := by unfold zzOp; rw [zm_213]; decide +kernel
theorem zo_213_245 : zzOp 213 245 = some (.iadd, 1) := by unfold zzOp; rw [zm_213]; decide +kernel
theorem zo_213_246 : zzOp 213 246 = some (.iaload, 1) := by unfold zzOp; rw [zm_213]; decide +kernel
theorem zo_213_247 : zzOp 213 247 = some (.invokevirtual 23, 3) := by unfold zzOp; rw [zm_213]; decide +kernel
theorem zo_213_250 : zzOp 213 250 = some (.aload_n 2, 1) := by unfold zzOp; rw [zm_213]; decide +kernel
theorem zo_213_251 : zzOp 213 251 = some (.aload_n 0, 1) := by unfold zzOp; rw [zm_213]; decide +kernel
theorem zo_213_252 : zzOp 213 252 = some (.iload_n 3, 1) := by unfold zzOp; rw [zm_213]; decide +kernel
theorem zo_213_253 : zzOp 213 253 = some (.iconst 1, 1) := by unfold zzOp; rw [zm_213]; decide +kernel
theorem zo_213_254 : zzOp 213 254 = some (.iadd, 1) := by unfold zzOp; rw [zm_213]; decide +kernel
theorem zo_213_255 : zzOp 213 255 = some (.iaload, 1) := by unfold zzOp; rw [zm_213]; decide +kernel
theorem zo_213_256 : zzOp 213 256 = some (.aload_n 0, 1) := by unfold zzOp; rw [zm_213]; decide +kernel
theorem zo_213_257 : zzOp 213 257 = some (.iload_n 3, 1) := by unfold zzOp; rw [zm_213]; decide +kernel
theorem zo_213_258 : zzOp 213 258 = some (.iconst 2, 1) := by unfold zzOp; rw [zm_213]; decide +kernel
theorem zo_213_259 : zzOp 213 259 = some (.iadd, 1) := by unfold zzOp; rw [zm_213]; decide +kernel
theorem zo_213_260 : zzOp 213 260 = some (.iaload, 1) := by unfold zzOp; rw [zm_213]; decide +kernel
theorem zo_213_261 : zzOp 213 261 = some (.invokevirtual 26, 3) := by unfold zzOp; rw [zm_213]; decide +kernel
theorem zo_213_264 : zzOp 213 264 = some (.if_icmp .eq 761, 3) := by unfold zzOp; rw [zm_213]; decide +kernel
theorem zo_213_267 : zzOp 213 267 = some (.iconst 0, 1) := by unfold zzOp; rw [zm_213]; decide +kernel
theorem zo_213_268 : zzOp 213 268 = some (.ireturn, 1) := by unfold zzOp; rw [zm_213]; decide +kernel
theorem zo_213_269 : zzOp 213 269 = some (.aload_n 1, 1) := by unfold zzOp; rw [zm_213]; decide +kernel
theorem zo_213_270 : zzOp 213 270 = some (.aload_n 0, 1) := by unfold zzOp; rw [zm_213]; decide +kernel
theorem zo_213_271 : zzOp 213 271 = some (.iload_n 3, 1) := by unfold zzOp; rw [zm_213]; decide +kernel
theorem zo_213_272 : zzOp 213 272 = some (.iconst 1, 1) := by unfold zzOp; rw [zm_213]; decide +kernel
theorem zo_213_273 : zzOp 213 273 = some (.iadd, 1) := by unfold zzOp; rw [zm_213]; decide +kernel
theorem zo_213_274 : zzOp 213 274 = some (.iaload, 1) := by unfold zzOp; rw [zm_213]; decide +kernel
theorem zo_213_275 : zzOp 213 275 = some (.aload_n 0, 1) := by unfold zzOp; rw [zm_213]; decide +kernel
theorem zo_213_276 : zzOp 213 276 = some (.iload_n 3, 1) := by unfold zzOp; rw [zm_213]; decide +kernel
theorem zo_213_277 : zzOp 213 277 = some (.iconst 2, 1) := by unfold zzOp; rw [zm_213]; decide +kernel
theorem zo_213_278 : zzOp 213 278 = some (.iadd, 1) := by unfold zzOp; rw [zm_213]; decide +kernel
theorem zo_213_279 : zzOp 213 279 = some (.iaload, 1) := by unfold zzOp; rw [zm_213]; decide +kernel
theorem zo_213_280 : zzOp 213 280 = some (.invokevirtual 27, 3) := by unfold zzOp; rw [zm_213]; decide +kernel
theorem zo_213_283 : zzOp 213 283 = some (.aload_n 2, 1) := by unfold zzOp; rw [zm_213]; decide +kernel
theorem zo_213_284 : zzOp 213 284 = some (.aload_n 0, 1) := by unfold zzOp; rw [zm_213]; decide +kernel
theorem zo_213_285 : zzOp 213 285 = some (.iload_n 3, 1) := by unfold zzOp; rw [zm_213]; decide +kernel
theorem zo_213_286 : zzOp 213 286 = some (.iconst 1, 1) := by unfold zzOp; rw [zm_213]; decide +kernel
theorem zo_213_287 : zzOp 213 287 = some (.iadd, 1) := by unfold zzOp; rw [zm_213]; decide +kernel
theorem zo_213_288 : zzOp 213 288 = some (.iaload, 1) := by unfold zzOp; rw [zm_213]; decide +kernel
theorem zo_213_289 : zzOp 213 289 = some (.aload_n 0, 1) := by unfold zzOp; rw [zm_213]; decide +kernel
theorem zo_213_290 : zzOp 213 290 = some (.iload_n 3, 1) := by unfold zzOp; rw [zm_213]; decide +kernel
theorem zo_213_291 : zzOp 213 291 = some (.iconst 2, 1) := by unfold zzOp; rw [zm_213]; decide +kernel
theorem zo_213_292 : zzOp 213 292 = some (.iadd, 1) := by unfold zzOp; rw [zm_213]; decide +kernel
theorem zo_213_293 : zzOp 213 293 = some (.iaload, 1) := by unfold zzOp; rw [zm_213]; decide +kernel
theorem zo_213_294 : zzOp 213 294 = some (.invokevirtual 30, 3) := by unfold zzOp; rw [zm_213]; decide +kernel
theorem zo_213_297 : zzOp 213 297 = some (.if_icmp .eq 728, 3) := by unfold zzOp; rw [zm_213]; decide +kernel
theorem zo_213_300 : zzOp 213 300 = some (.iconst 0, 1) := by unfold zzOp; rw [zm_213]; decide +kernel
theorem zo_213_301 : zzOp 213 301 = some (.ireturn, 1) := by unfold zzOp; rw [zm_213]; decide +kernel
theorem zo_213_302 : zzOp 213 302 = some (.aload_n 1, 1) := by unfold zzOp; rw [zm_213]; decide +kernel
theorem zo_213_303 : zzOp 213 303 = some (.aload_n 0, 1) := by unfold zzOp; rw [zm_213]; decide +kernel
theorem zo_213_304 : zzOp 213 304 = some (.iload_n 3, 1) := by unfold zzOp; rw [zm_213]; decide +kernel
theorem zo_213_305 : zzOp 213 305 = some (.iconst 1, 1) := by unfold zzOp; rw [zm_213]; decide +kernel
theorem zo_213_306 : zzOp 213 306 = some (.iadd, 1) := by unfold zzOp; rw [zm_213]; decide +kernel
theorem zo_213_307 : zzOp 213 307 = some (.iaload, 1) := by unfold zzOp; rw [zm_213]; decide +kernel
theorem zo_213_308 : zzOp 213 308 = some (.invokevirtual 31, 3) := by unfold zzOp; rw [zm_213]; decide +kernel
theorem zo_213_311 : zzOp 213 311 = some (.aload_n 2, 1) := by unfold zzOp; rw [zm_213]; decide +kernel
theorem zo_213_312 : zzOp 213 312 = some (.aload_n 0, 1) := by unfold zzOp; rw [zm_213]; decide +kernel
theorem zo_213_313 : zzOp 213 313 = some (.iload_n 3, 1) := by unfold zzOp; rw [zm_213]; decide +kernel
theorem zo_213_314 : zzOp 213 314 = some (.iconst 1, 1) := by unfold zzOp; rw [zm_213]; decide +kernel
theorem zo_213_315 : zzOp 213 315 = some (.iadd, 1) := by unfold zzOp; rw [zm_213]; decide +kernel
theorem zo_213_316 : zzOp 213 316 = some (.iaload, 1) := by unfold zzOp; rw [zm_213]; decide +kernel
theorem zo_213_317 : zzOp 213 317 = some (.invokevirtual 35, 3) := by unfold zzOp; rw [zm_213]; decide +kernel
theorem zo_213_320 : zzOp 213 320 = some (.if_icmp .eq 705, 3) := by unfold zzOp; rw [zm_213]; decide +kernel
theorem zo_213_323 : zzOp 213 323 = some (.iconst 0, 1) := by unfold zzOp; rw [zm_213]; decide +kernel
theorem zo_213_324 : zzOp 213 324 = some (.ireturn, 1) := by unfold zzOp; rw [zm_213]; decide +kernel
theorem zo_213_325 : zzOp 213 325 = some (.aload_n 1, 1) := by unfold zzOp; rw [zm_213]; decide +kernel
theorem zo_213_326 : zzOp 213 326 = some (.aload_n 0, 1) := by unfold zzOp; rw [zm_213]; decide +kernel
theorem zo_213_327 : zzOp 213 327 = some (.iload_n 3, 1) := by unfold zzOp; rw [zm_213]; decide +kernel
theorem zo_213_328 : zzOp 213 328 = some (.iconst 1, 1) := by unfold zzOp; rw [zm_213]; decide +kernel
theorem zo_213_329 : zzOp 213 329 = some (.iadd, 1) := by unfold zzOp; rw [zm_213]; decide +kernel
theorem zo_213_330 : zzOp 213 330 = some (.iaload, 1) := by unfold zzOp; rw [zm_213]; decide +kernel
theorem zo_213_331 : zzOp 213 331 = some (.invokevirtual 36, 3) := by unfold zzOp; rw [zm_213]; decide +kernel
theorem zo_213_334 : zzOp 213 334 = some (.aload_n 2, 1) := by unfold zzOp; rw [zm_213]; decide +kernel
theorem zo_213_335 : zzOp 213 335 = some (.aload_n 0, 1) := by unfold zzOp; rw [zm_213]; decide +kernel
theorem zo_213_336 : zzOp 213 336 = some (.iload_n 3, 1) := by unfold zzOp; rw [zm_213]; decide +kernel
theorem zo_213_337 : zzOp 213 337 = some (.iconst 1, 1) := by unfold zzOp; rw [zm_213]; decide +kernel
theorem zo_213_338 : zzOp 213 338 = some (.iadd, 1) := by unfold zzOp; rw [zm_213]; decide +kernel
theorem zo_213_339 : zzOp 213 339 = some (.iaload, 1) := by unfold zzOp; rw [zm_213]; decide +kernel
theorem zo_213_340 : zzOp 213 340 = some (.invokevirtual 39, 3) := by unfold zzOp; rw [zm_213]; decide +kernel
theorem zo_213_343 : zzOp 213 343 = some (.if_icmp .eq 682, 3) := by unfold zzOp; rw [zm_213]; decide +kernel
theorem zo_213_346 : zzOp 213 346 = some (.iconst 0, 1) := by unfold zzOp; rw [zm_213]; decide +kernel
theorem zo_213_347 : zzOp 213 347 = some (.ireturn, 1) := by unfold zzOp; rw [zm_213]; decide +kernel
theorem zo_213_348 : zzOp 213 348 = some (.aload_n 1, 1) := by unfold zzOp; rw [zm_213]; decide +kernel
theorem zo_213_349 : zzOp 213 349 = some (.invokevirtual 40, 3) := by unfold zzOp; rw [zm_213]; decide +kernel
theorem zo_213_352 : zzOp 213 352 = some (.aload_n 2, 1) := by unfold zzOp; rw [zm_213]; decide +kernel
theorem zo_213_353 : zzOp 213 353 = some (.invokevirtual 44, 3) := by unfold zzOp; rw [zm_213]; decide +kernel
theorem zo_213_356 : zzOp 213 356 = some (.if_icmp .eq 669, 3) := by unfold zzOp; rw [zm_213]; decide +kernel
theorem zo_213_359 : zzOp 213 359 = some (.iconst 0, 1) := by unfold zzOp; rw [zm_213]; decide +kernel
theorem zo_213_360 : zzOp 213 360 = some (.ireturn, 1) := by unfold zzOp; rw [zm_213]; decide +kernel
theorem zo_213_361 : zzOp 213 361 = some (.aload_n 1, 1) := by unfold zzOp; rw [zm_213]; decide +kernel
theorem zo_213_362 : zzOp 213 362 = some (.aload_n 0, 1) := by unfold zzOp; rw [zm_213]; decide +kernel
theorem zo_213_363 : zzOp 213 363 = some (.iload_n 3, 1) := by unfold zzOp; rw [zm_213]; decide +kernel
theorem zo_213_364 : zzOp 213 364 = some (.iconst 1, 1) := by unfold zzOp; rw [zm_213]; decide +kernel
theorem zo_213_365 : zzOp 213 365 = some (.iadd, 1) := by unfold zzOp; rw [zm_213]; decide +kernel
theorem zo_213_366 : zzOp 213 366 = some (.iaload, 1) := by unfold zzOp; rw [zm_213]; decide +kernel
theorem zo_213_367 : zzOp 213 367 = some (.invokevirtual 45, 3) := by unfold zzOp; rw [zm_213]; decide +kernel
theorem zo_213_370 : zzOp 213 370 = some (.aload_n 2, 1) := by unfold zzOp; rw [zm_213]; decide +kernel
theorem zo_213_371 : zzOp 213 371 = some (.aload_n 0, 1) := by unfold zzOp; rw [zm_213]; decide +kernel
theorem zo_213_372 : zzOp 213 372 = some (.iload_n 3, 1) := by unfold zzOp; rw [zm_213]; decide +kernel
theorem zo_213_373 : zzOp 213 373 = some (.iconst 1, 1) := by unfold zzOp; rw [zm_213]; decide +kernel
theorem zo_213_374 : zzOp 213 374 = some (.iadd, 1) := by unfold zzOp; rw [zm_213]; decide +kernel
theorem zo_213_375 : zzOp 213 375 = some (.iaload, 1) := by unfold zzOp; rw [zm_213]; decide +kernel
theorem zo_213_376 : zzOp 213 376 = some (.invokevirtual 48, 3) := by unfold zzOp; rw [zm_213]; decide +kernel
theorem zo_213_379 : zzOp 213 379 = some (.if_icmp .eq 646, 3) := by unfold zzOp; rw [zm_213]; decide +kernel
theorem zo_213_382 : zzOp 213 382 = some (.iconst 0, 1) := by unfold zzOp; rw [zm_213]; decide +kernel
theorem zo_213_383 : zzOp 213 383 = some (.ireturn, 1) := by unfold zzOp; rw [zm_213]; decide +kernel
theorem zo_213_384 : zzOp 213 384 = some (.aload_n 1, 1) := by unfold zzOp; rw [zm_213]; decide +kernel
theorem zo_213_385 : zzOp 213 385 = some (.aload_n 0, 1) := by unfold zzOp; rw [zm_213]; decide +kernel
theorem zo_213_386 : zzOp 213 386 = some (.iload_n 3, 1) := by unfold zzOp; rw [zm_213]; decide +kernel
theorem zo_213_387 : zzOp 213 387 = some (.iconst 1, 1) := by unfold zzOp; rw [zm_213]; decide +kernel
theorem zo_213_388 : zzOp 213 388 = some (.iadd, 1) := by unfold zzOp; rw [zm_213]; decide +kernel
theorem zo_213_389 : zzOp 213 389 = some (.iaload, 1) := by unfold zzOp; rw [zm_213]; decide +kernel
theorem zo_213_390 : zzOp 213 390 = some (.invokevirtual 49, 3) := by unfold zzOp; rw [zm_213]; decide +kernel
theorem zo_213_393 : zzOp 213 393 = some (.aload_n 2, 1) := by unfold zzOp; rw [zm_213]; decide +kernel
theorem zo_213_394 : zzOp 213 394 = some (.aload_n 0, 1) := by unfold zzOp; rw [zm_213]; decide +kernel
theorem zo_213_395 : zzOp 213 395 = some (.iload_n 3, 1) := by unfold zzOp; rw [zm_213]; decide +kernel
theorem zo_213_396 : zzOp 213 396 = some (.iconst 1, 1) := by unfold zzOp; rw [zm_213]; decide +kernel
theorem zo_213_397 : zzOp 213 397 = some (.iadd, 1) := by unfold zzOp; rw [zm_213]; decide +kernel
theorem zo_213_398 : zzOp 213 398 = some (.iaload, 1) := by unfold zzOp; rw [zm_213]; decide +kernel
theorem zo_213_399 : zzOp 213 399 = some (.invokevirtual 52, 3) := by unfold zzOp; rw [zm_213]; decide +kernel
theorem zo_213_402 : zzOp 213 402 = some (.if_icmp .eq 623, 3) := by unfold zzOp; rw [zm_213]; decide +kernel
theorem zo_213_405 : zzOp 213 405 = some (.iconst 0, 1) := by unfold zzOp; rw [zm_213]; decide +kernel
theorem zo_213_406 : zzOp 213 406 = some (.ireturn, 1) := by unfold zzOp; rw [zm_213]; decide +kernel
theorem zo_213_407 : zzOp 213 407 = some (.aload_n 1, 1) := by unfold zzOp; rw [zm_213]; decide +kernel
theorem zo_213_408 : zzOp 213 408 = some (.aload_n 0, 1) := by unfold zzOp; rw [zm_213]; decide +kernel
theorem zo_213_409 : zzOp 213 409 = some (.iload_n 3, 1) := by unfold zzOp; rw [zm_213]; decide +kernel
theorem zo_213_410 : zzOp 213 410 = some (.iconst 1, 1) := by unfold zzOp; rw [zm_213]; decide +kernel
theorem zo_213_411 : zzOp 213 411 = some (.iadd, 1) := by unfold zzOp; rw [zm_213]; decide +kernel
theorem zo_213_412 : zzOp 213 412 = some (.iaload, 1) := by unfold zzOp; rw [zm_213]; decide +kernel
theorem zo_213_413 : zzOp 213 413 = some (.aload_n 0, 1) := by unfold zzOp; rw [zm_213]; decide +kernel
theorem zo_213_414 : zzOp 213 414 = some (.iload_n 3, 1) := by unfold zzOp; rw [zm_213]; decide +kernel
theorem zo_213_415 : zzOp 213 415 = some (.iconst 2, 1) := by unfold zzOp; rw [zm_213]; decide +kernel
theorem zo_213_416 : zzOp 213 416 = some (.iadd, 1) := by unfold zzOp; rw [zm_213]; decide +kernel
theorem zo_213_417 : zzOp 213 417 = some (.iaload, 1) := by unfold zzOp; rw [zm_213]; decide +kernel
theorem zo_213_418 : zzOp 213 418 = some (.invokevirtual 53, 3) := by unfold zzOp; rw [zm_213]; decide +kernel
theorem zo_213_421 : zzOp 213 421 = some (.aload_n 2, 1) := by unfold zzOp; rw [zm_213]; decide +kernel
theorem zo_213_422 : zzOp 213 422 = some (.aload_n 0, 1) := by unfold zzOp; rw [zm_213]; decide +kernel
theorem zo_213_423 : zzOp 213 423 = some (.iload_n 3, 1) := by unfold zzOp; rw [zm_213]; decide +kernel
theorem zo_213_424 : zzOp 213 424 = some (.iconst 1, 1) := by unfold zzOp; rw [zm_213]; decide +kernel
theorem zo_213_425 : zzOp 213 425 = some (.iadd, 1) := by unfold zzOp; rw [zm_213]; decide +kernel
theorem zo_213_426 : zzOp 213 426 = some (.iaload, 1) := by unfold zzOp; rw [zm_213]; decide +kernel
theorem zo_213_427 : zzOp 213 427 = some (.aload_n 0, 1) := by unfold zzOp; rw [zm_213]; decide +kernel
theorem zo_213_428 : zzOp 213 428 = some (.iload_n 3, 1) := by unfold zzOp; rw [zm_213]; decide +kernel
theorem zo_213_429 : zzOp 213 429 = some (.iconst 2, 1) := by unfold zzOp; rw [zm_213]; decide +kernel
theorem zo_213_430 : zzOp 213 430 = some (.iadd, 1) := by unfold zzOp; rw [zm_213]; decide +kernel
theorem zo_213_431 : zzOp 213 431 = some (.iaload, 1) := by unfold zzOp; rw [zm_213]; decide +kernel
theorem zo_213_432 : zzOp 213 432 = some (.invokevirtual 56, 3) := by unfold zzOp; rw [zm_213]; decide +kernel
theorem zo_213_435 : zzOp 213 435 = some (.if_icmp .eq 590, 3) := by unfold zzOp; rw [zm_213]; decide +kernel
theorem zo_213_438 : zzOp 213 438 = some (.iconst 0, 1) := by unfold zzOp; rw [zm_213]; decide +kernel
theorem zo_213_439 : zzOp 213 439 = some (.ireturn, 1) := by unfold zzOp; rw [zm_213]; decide +kernel
theorem zo_213_440 : zzOp 213 440 = some (.aload_n 1, 1) := by unfold zzOp; rw [zm_213]; decide +kernel
theorem zo_213_441 : zzOp 213 441 = some (.aload_n 0, 1) := by unfold zzOp; rw [zm_213]; decide +kernel
theorem zo_213_442 : zzOp 213 442 = some (.iload_n 3, 1) := by unfold zzOp; rw [zm_213]; decide +kernel
theorem zo_213_443 : zzOp 213 443 = some (.iconst 1, 1) := by unfold zzOp; rw [zm_213]; decide +kernel
theorem zo_213_444 : zzOp 213 444 = some (.iadd, 1) := by unfold zzOp; rw [zm_213]; decide +kernel
theorem zo_213_445 : zzOp 213 445 = some (.iaload, 1) := by unfold zzOp; rw [zm_213]; decide +kernel
theorem zo_213_446 : zzOp 213 446 = some (.aload_n 0, 1) := by unfold zzOp; rw [zm_213]; decide +kernel
theorem zo_213_447 : zzOp 213 447 = some (.iload_n 3, 1) := by unfold zzOp; rw [zm_213]; decide +kernel
theorem zo_213_448 : zzOp 213 448 = some (.iconst 2, 1) := by unfold zzOp; rw [zm_213]; decide +kernel
theorem zo_213_449 : zzOp 213 449 = some (.iadd, 1) := by unfold zzOp; rw [zm_213]; decide +kernel
theorem zo_213_450 : zzOp 213 450 = some (.iaload, 1) := by unfold zzOp; rw [zm_213]; decide +kernel
theorem zo_213_451 : zzOp 213 451 = some (.invokevirtual 57, 3) := by unfold zzOp; rw [zm_213]; decide +kernel
theorem zo_213_454 : zzOp 213 454 = some (.aload_n 2, 1) := by unfold zzOp; rw [zm_213]; decide +kernel
theorem zo_213_455 : zzOp 213 455 = some (.aload_n 0, 1) := by unfold zzOp; rw [zm_213]; decide +kernel
theorem zo_213_456 : zzOp 213 456 = some (.iload_n 3, 1) := by unfold zzOp; rw [zm_213]; decide +kernel
theorem zo_213_457 : zzOp 213 457 = some (.iconst 1, 1) := by unfold zzOp; rw [zm_213]; decide +kernel
theorem zo_213_458 : zzOp 213 458 = some (.iadd, 1) := by unfold zzOp; rw [zm_213]; decide +kernel
theorem zo_213_459 : zzOp 213 459 = some (.iaload, 1) := by unfold zzOp; rw [zm_213]; decide +kernel
theorem zo_213_460 : zzOp 213 460 = some (.aload_n 0, 1) := by unfold zzOp; rw [zm_213]; decide +kernel
theorem zo_213_461 : zzOp 213 461 = some (.iload_n 3, 1) := by unfold zzOp; rw [zm_213]; decide +kernel
theorem zo_213_462 : zzOp 213 462 = some (.iconst 2, 1) := by unfold zzOp; rw [zm_213]; decide +kernel
theorem zo_213_463 : zzOp 213 463 = some (.iadd, 1) := by unfold zzOp; rw [zm_213]; decide +kernel
theorem zo_213_464 : zzOp 213 464 = some (.iaload, 1) := by unfold zzOp; rw [zm_213]; decide +kernel
theorem zo_213_465 : zzOp 213 465 = some (.invokevirtual 60, 3) := by unfold zzOp; rw [zm_213]; decide +kernel
theorem zo_213_468 : zzOp 213 468 = some (.if_icmp .eq 557, 3) := by unfold zzOp; rw [zm_213]; decide +kernel
theorem zo_213_471 : zzOp 213 471 = some (.iconst 0, 1) := by unfold zzOp; rw [zm_213]; decide +kernel
theorem zo_213_472 : zzOp 213 472 = some (.ireturn, 1) := by unfold zzOp; rw [zm_213]; decide +kernel
theorem zo_213_473 : zzOp 213 473 = some (.aload_n 1, 1) := by unfold zzOp; rw [zm_213]; decide +kernel
theorem zo_213_474 : zzOp 213 474 = some (.aload_n 0, 1) := by unfold zzOp; rw [zm_213]; decide +kernel
theorem zo_213_475 : zzOp 213 475 = some (.iload_n 3, 1) := by unfold zzOp; rw [zm_213]; decide +kernel
theorem zo_213_476 : zzOp 213 476 = some (.iconst 1, 1) := by unfold zzOp; rw [zm_213]; decide +kernel
theorem zo_213_477 : zzOp 213 477 = some (.iadd, 1) := by unfold zzOp; rw [zm_213]; decide +kernel
theorem zo_213_478 : zzOp 213 478 = some (.iaload, 1) := by unfold zzOp; rw [zm_213]; decide +kernel
theorem zo_213_479 : zzOp 213 479 = some (.invokevirtual 61, 3) := by unfold zzOp; rw [zm_213]; decide +kernel
theorem zo_213_482 : zzOp 213 482 = some (.aload_n 2, 1) := by unfold zzOp; rw [zm_213]; decide +kernel
theorem zo_213_483 : zzOp 213 483 = some (.aload_n 0, 1) := by unfold zzOp; rw [zm_213]; decide +kernel
theorem zo_213_484 : zzOp 213 484 = some (.iload_n 3, 1) := by unfold zzOp; rw [zm_213]; decide +kernel
theorem zo_213_485 : zzOp 213 485 = some (.iconst 1, 1) := by unfold zzOp; rw [zm_213]; decide +kernel
theorem zo_213_486 : zzOp 213 486 = some (.iadd, 1) := by unfold zzOp; rw [zm_213]; decide +kernel
theorem zo_213_487 : zzOp 213 487 = some (.iaload, 1) := by unfold zzOp; rw [zm_213]; decide +kernel
theorem zo_213_488 : zzOp 213 488 = some (.invokevirtual 64, 3) := by unfold zzOp; rw [zm_213]; decide +kernel
theorem zo_213_491 : zzOp 213 491 = some (.if_icmp .eq 534, 3) := by unfold zzOp; rw [zm_213]; decide +kernel
theorem zo_213_494 : zzOp 213 494 = some (.iconst 0, 1) := by unfold zzOp; rw [zm_213]; decide +kernel
theorem zo_213_495 : zzOp 213 495 = some (.ireturn, 1) := by unfold zzOp; rw [zm_213]; decide +kernel
theorem zo_213_496 : zzOp 213 496 = some (.aload_n 1, 1) := by unfold zzOp; rw [zm_213]; decide +kernel
theorem zo_213_497 : zzOp 213 497 = some (.aload_n 0, 1) := by unfold zzOp; rw [zm_213]; decide +kernel
theorem zo_213_498 : zzOp 213 498 = some (.iload_n 3, 1) := by unfold zzOp; rw [zm_213]; decide +kernel
theorem zo_213_499 : zzOp 213 499 = some (.iconst 1, 1) := by unfold zzOp; rw [zm_213]; decide +kernel
theorem zo_213_500 : zzOp 213 500 = some (.iadd, 1) := by unfold zzOp; rw [zm_213]; decide +kernel
theorem zo_213_501 : zzOp 213 501 = some (.iaload, 1) := by unfold zzOp; rw [zm_213]; decide +kernel
theorem zo_213_502 : zzOp 213 502 = some (.invokevirtual 65, 3) := by unfold zzOp; rw [zm_213]; decide +kernel
theorem zo_213_505 : zzOp 213 505 = some (.aload_n 2, 1) := by unfold zzOp; rw [zm_213]; decide +kernel
theorem zo_213_506 : zzOp 213 506 = some (.aload_n 0, 1) := by unfold zzOp; rw [zm_213]; decide +kernel
theorem zo_213_507 : zzOp 213 507 = some (.iload_n 3, 1) := by unfold zzOp; rw [zm_213]; decide +kernel
theorem zo_213_508 : zzOp 213 508 = some (.iconst 1, 1) := by unfold zzOp; rw [zm_213]; decide +kernel
theorem zo_213_509 : zzOp 213 509 = some (.iadd, 1) := by unfold zzOp; rw [zm_213]; decide +kernel
theorem zo_213_510 : zzOp 213 510 = some (.iaload, 1) := by unfold zzOp; rw [zm_213]; decide +kernel
theorem zo_213_511 : zzOp 213 511 = some (.invokevirtual 68, 3) := by unfold zzOp; rw [zm_213]; decide +kernel
theorem zo_213_514 : zzOp 213 514 = some (.if_icmp .eq 511, 3) := by unfold zzOp; rw [zm_213]; decide +kernel
theorem zo_213_517 : zzOp 213 517 = some (.iconst 0, 1) := by unfold zzOp; rw [zm_213]; decide +kernel
theorem zo_213_518 : zzOp 213 518 = some (.ireturn, 1) := by unfold zzOp; rw [zm_213]; decide +kernel
theorem zo_213_519 : zzOp 213 519 = some (.aload_n 1, 1) := by unfold zzOp; rw [zm_213]; decide +kernel
theorem zo_213_520 : zzOp 213 520 = some (.aload_n 0, 1) := by unfold zzOp; rw [zm_213]; decide +kernel
theorem zo_213_521 : zzOp 213 521 = some (.iload_n 3, 1) := by unfold zzOp; rw [zm_213]; decide +kernel
theorem zo_213_522 : zzOp 213 522 = some (.iconst 1, 1) := by unfold zzOp; rw [zm_213]; decide +kernel
theorem zo_213_523 : zzOp 213 523 = some (.iadd, 1) := by unfold zzOp; rw [zm_213]; decide +kernel
theorem zo_213_524 : zzOp 213 524 = some (.iaload, 1) := by unfold zzOp; rw [zm_213]; decide +kernel
theorem zo_213_525 : zzOp 213 525 = some (.aload_n 0, 1) := by unfold zzOp; rw [zm_213]; decide +kernel
theorem zo_213_526 : zzOp 213 526 = some (.iload_n 3, 1) := by unfold zzOp; rw [zm_213]; decide +kernel
theorem zo_213_527 : zzOp 213 527 = some (.iconst 2, 1) := by unfold zzOp; rw [zm_213]; decide +kernel
theorem zo_213_528 : zzOp 213 528 = some (.iadd, 1) := by unfold zzOp; rw [zm_213]; decide +kernel
theorem zo_213_529 : zzOp 213 529 = some (.iaload, 1) := by unfold zzOp; rw [zm_213]; decide +kernel
theorem zo_213_530 : zzOp 213 530 = some (.invokevirtual 69, 3) := by unfold zzOp; rw [zm_213]; decide +kernel
theorem zo_213_533 : zzOp 213 533 = some (.aload_n 2, 1) := by unfold zzOp; rw [zm_213]; decide +kernel
theorem zo_213_534 : zzOp 213 534 = some (.aload_n 0, 1) := by unfold zzOp; rw [zm_213]; decide +kernel
theorem zo_213_535 : zzOp 213 535 = some (.iload_n 3, 1) := by unfold zzOp; rw [zm_213]; decide +kernel
theorem zo_213_536 : zzOp 213 536 = some (.iconst 1, 1) := by unfold zzOp; rw [zm_213]; decide +kernel
theorem zo_213_537 : zzOp 213 537 = some (.iadd, 1) := by unfold zzOp; rw [zm_213]; decide +kernel
theorem zo_213_538 : zzOp 213 538 = some (.iaload, 1) := by unfold zzOp; rw [zm_213]; decide +kernel
theorem zo_213_539 : zzOp 213 539 = some (.aload_n 0, 1) := by unfold zzOp; rw [zm_213]; decide +kernel
theorem zo_213_540 : zzOp 213 540 = some (.iload_n 3, 1) := by unfold zzOp; rw [zm_213]; decide +kernel
theorem zo_213_541 : zzOp 213 541 = some (.iconst 2, 1) := by unfold zzOp; rw [zm_213]; decide +kernel
theorem zo_213_542 : zzOp 213 542 = some (.iadd, 1) := by unfold zzOp; rw [zm_213]; decide +kernel
theorem zo_213_543 : zzOp 213 543 = some (.iaload, 1) := by unfold zzOp; rw [zm_213]; decide +kernel
theorem zo_213_544 : zzOp 213 544 = some (.invokevirtual 72, 3) := by unfold zzOp; rw [zm_213]; decide +kernel
theorem zo_213_547 : zzOp 213 547 = some (.if_icmp .eq 478, 3) := by unfold zzOp; rw [zm_213]; decide +kernel
theorem zo_213_550 : zzOp 213 550 = some (.iconst 0, 1) := by unfold zzOp; rw [zm_213]; decide +kernel
theorem zo_213_551 : zzOp 213 551 = some (.ireturn, 1) := by unfold zzOp; rw [zm_213]; decide +kernel
theorem zo_213_552 : zzOp 213 552 = some (.aload_n 1, 1) := by unfold zzOp; rw [zm_213]; decide +kernel
theorem zo_213_553 : zzOp 213 553 = some (.aload_n 0, 1) := by unfold zzOp; rw [zm_213]; decide +kernel
theorem zo_213_554 : zzOp 213 554 = some (.iload_n 3, 1) := by unfold zzOp; rw [zm_213]; decide +kernel
theorem zo_213_555 : zzOp 213 555 = some (.iconst 1, 1) := by unfold zzOp; rw [zm_213]; decide +kernel
theorem zo_213_556 : zzOp 213 556 = some (.iadd, 1) := by unfold zzOp; rw [zm_213]; decide +kernel
theorem zo_213_557 : zzOp 213 557 = some (.iaload, 1) := by unfold zzOp; rw [zm_213]; decide +kernel
theorem zo_213_558 : zzOp 213 558 = some (.aload_n 0, 1) := by unfold zzOp; rw [zm_213]; decide +kernel
theorem zo_213_559 : zzOp 213 559 = some (.iload_n 3, 1) := by unfold zzOp; rw [zm_213]; decide +kernel
theorem zo_213_560 : zzOp 213 560 = some (.iconst 2, 1) := by unfold zzOp; rw [zm_213]; decide +kernel
theorem zo_213_561 : zzOp 213 561 = some (.iadd, 1) := by unfold zzOp; rw [zm_213]; decide +kernel
theorem zo_213_562 : zzOp 213 562 = some (.iaload, 1) := by unfold zzOp; rw [zm_213]; decide +kernel
theorem zo_213_563 : zzOp 213 563 = some (.invokevirtual 73, 3) := by unfold zzOp; rw [zm_213]; decide +kernel
theorem zo_213_566 : zzOp 213 566 = some (.aload_n 2, 1) := by unfold zzOp; rw [zm_213]; decide +kernel
theorem zo_213_567 : zzOp 213 567 = some (.aload_n 0, 1) := by unfold zzOp; rw [zm_213]; decide +kernel
theorem zo_213_568 : zzOp 213 568 = some (.iload_n 3, 1) := by unfold zzOp; rw [zm_213]; decide +kernel
theorem zo_213_569 : zzOp 213 569 = some (.iconst 1, 1) := by unfold zzOp; rw [zm_213]; decide +kernel
theorem zo_213_570 : zzOp 213 570 = some (.iadd, 1) := by unfold zzOp; rw [zm_213]; decide +kernel
theorem zo_213_571 : zzOp 213 571 = some (.iaload, 1) := by unfold zzOp; rw [zm_213]; decide +kernel
theorem zo_213_572 : zzOp 213 572 = some (.aload_n 0, 1) := by unfold zzOp; rw [zm_213]; decide +kernel
theorem zo_213_573 : zzOp 213 573 = some (.iload_n 3, 1) := by unfold zzOp; rw [zm_213]; decide +kernel
theorem zo_213_574 : zzOp 213 574 = some (.iconst 2, 1) := by unfold zzOp; rw [zm_213]; decide +kernel
theorem zo_213_575 : zzOp 213 575 = some (.iadd, 1) := by unfold zzOp; rw [zm_213]; decide +kernel
theorem zo_213_576 : zzOp 213 576 = some (.iaload, 1) := by unfold zzOp; rw [zm_213]; decide +kernel
theorem zo_213_577 : zzOp 213 577 = some (.invokevirtual 76, 3) := by unfold zzOp; rw [zm_213]; decide +kernel
theorem zo_213_580 : zzOp 213 580 = some (.if_icmp .eq 445, 3) := by unfold zzOp; rw [zm_213]; decide +kernel
theorem zo_213_583 : zzOp 213 583 = some (.iconst 0, 1) := by unfold zzOp; rw [zm_213]; decide +kernel
theorem zo_213_584 : zzOp 213 584 = some (.ireturn, 1) := by unfold zzOp; rw [zm_213]; decide +kernel
theorem zo_213_585 : zzOp 213 585 = some (.aload_n 1, 1) := by unfold zzOp; rw [zm_213]; decide +kernel
theorem zo_213_586 : zzOp 213 586 = some (.aload_n 0, 1) := by unfold zzOp; rw [zm_213]; decide +kernel
theorem zo_213_587 : zzOp 213 587 = some (.iload_n 3, 1) := by unfold zzOp; rw [zm_213]; decide +kernel
theorem zo_213_588 : zzOp 213 588 = some (.iconst 1, 1) := by unfold zzOp; rw [zm_213]; decide +kernel
theorem zo_213_589 : zzOp 213 589 = some (.iadd, 1) := by unfold zzOp; rw [zm_213]; decide +kernel
theorem zo_213_590 : zzOp 213 590 = some (.iaload, 1) := by unfold zzOp; rw [zm_213]; decide +kernel
theorem zo_213_591 : zzOp 213 591 = some (.aload_n 0, 1) := by unfold zzOp; rw [zm_213]; decide +kernel
theorem zo_213_592 : zzOp 213 592 = some (.iload_n 3, 1) := by unfold zzOp; rw [zm_213]; decide +kernel
theorem zo_213_593 : zzOp 213 593 = some (.iconst 2, 1) := by unfold zzOp; rw [zm_213]; decide +kernel
theorem zo_213_594 : zzOp 213 594 = some (.iadd, 1) := by unfold zzOp; rw [zm_213]; decide +kernel
theorem zo_213_595 : zzOp 213 595 = some (.iaload, 1) := by unfold zzOp; rw [zm_213]; decide +kernel
theorem zo_213_596 : zzOp 213 596 = some (.invokevirtual 77, 3) := by unfold zzOp; rw [zm_213]; decide +kernel
theorem zo_213_599 : zzOp 213 599 = some (.aload_n 2, 1) := by unfold zzOp; rw [zm_213]; decide +kernel
theorem zo_213_600 : zzOp 213 600 = some (.aload_n 0, 1) := by unfold zzOp; rw [zm_213]; decide +kernel
theorem zo_213_601 : zzOp 213 601 = some (.iload_n 3, 1) := by unfold zzOp; rw [zm_213]; decide +kernel
theorem zo_213_602 : zzOp 213 602 = some (.iconst 1, 1) := by unfold zzOp; rw [zm_213]; decide +kernel
theorem zo_213_603 : zzOp 213 603 = some (.iadd, 1) := by unfold zzOp; rw [zm_213]; decide +kernel
theorem zo_213_604 : zzOp 213 604 = some (.iaload, 1) := by unfold zzOp; rw [zm_213]; decide +kernel
theorem zo_213_605 : zzOp 213 605 = some (.aload_n 0, 1) := by unfold zzOp; rw [zm_213]; decide +kernel
theorem zo_213_606 : zzOp 213 606 = some (.iload_n 3, 1) := by unfold zzOp; rw [zm_213]; decide +kernel
theorem zo_213_607 : zzOp 213 607 = some (.iconst 2, 1) := by unfold zzOp; rw [zm_213]; decide +kernel
theorem zo_213_608 : zzOp 213 608 = some (.iadd, 1) := by unfold zzOp; rw [zm_213]; decide +kernel
theorem zo_213_609 : zzOp 213 609 = some (.iaload, 1) := by unfold zzOp; rw [zm_213]; decide +kernel
theorem zo_213_610 : zzOp 213 610 = some (.invokevirtual 80, 3) := by unfold zzOp; rw [zm_213]; decide +kernel
theorem zo_213_613 : zzOp 213 613 = some (.if_icmp .eq 412, 3) := by unfold zzOp; rw [zm_213]; decide +kernel
theorem zo_213_616 : zzOp 213 616 = some (.iconst 0, 1) := by unfold zzOp; rw [zm_213]; decide +kernel
theorem zo_213_617 : zzOp 213 617 = some (.ireturn, 1) := by unfold zzOp; rw [zm_213]; decide +kernel
theorem zo_213_618 : zzOp 213 618 = some (.aload_n 1, 1) := by unfold zzOp; rw [zm_213]; decide +kernel
theorem zo_213_619 : zzOp 213 619 = some (.aload_n 0, 1) := by unfold zzOp; rw [zm_213]; decide +kernel
theorem zo_213_620 : zzOp 213 620 = some (.iload_n 3, 1) := by unfold zzOp; rw [zm_213]; decide +kernel
theorem zo_213_621 : zzOp 213 621 = some (.iconst 1, 1) := by unfold zzOp; rw [zm_213]; decide +kernel
theorem zo_213_622 : zzOp 213 622 = some (.iadd, 1) := by unfold zzOp; rw [zm_213]; decide +kernel
theorem zo_213_623 : zzOp 213 623 = some (.iaload, 1) := by unfold zzOp; rw [zm_213]; decide +kernel
theorem zo_213_624 : zzOp 213 624 = some (.aload_n 0, 1) := by unfold zzOp; rw [zm_213]; decide +kernel
theorem zo_213_625 : zzOp 213 625 = some (.iload_n 3, 1) := by unfold zzOp; rw [zm_213]; decide +kernel
theorem zo_213_626 : zzOp 213 626 = some (.iconst 2, 1) := by unfold zzOp; rw [zm_213]; decide +kernel
theorem zo_213_627 : zzOp 213 627 = some (.iadd, 1) := by unfold zzOp; rw [zm_213]; decide +kernel
theorem zo_213_628 : zzOp 213 628 = some (.iaload, 1) := by unfold zzOp; rw [zm_213]; decide +kernel
theorem zo_213_629 : zzOp 213 629 = some (.invokevirtual 81, 3) := by unfold zzOp; rw [zm_213]; decide +kernel
theorem zo_213_632 : zzOp 213 632 = some (.aload_n 2, 1) := by unfold zzOp; rw [zm_213]; decide +kernel
theorem zo_213_633 : zzOp 213 633 = some (.aload_n 0, 1) := by unfold zzOp; rw [zm_213]; decide +kernel
theorem zo_213_634 : zzOp 213 634 = some (.iload_n 3, 1) := by unfold zzOp; rw [zm_213]; decide +kernel
theorem zo_213_635 : zzOp 213 635 = some (.iconst 1, 1) := by unfold zzOp; rw [zm_213]; decide +kernel
theorem zo_213_636 : zzOp 213 636 = some (.iadd, 1) := by unfold zzOp; rw [zm_213]; decide +kernel
theorem zo_213_637 : zzOp 213 637 = some (.iaload, 1) := by unfold zzOp; rw [zm_213]; decide +kernel
theorem zo_213_638 : zzOp 213 638 = some (.aload_n 0, 1) := by unfold zzOp; rw [zm_213]; decide +kernel
theorem zo_213_639 : zzOp 213 639 = some (.iload_n 3, 1) := by unfold zzOp; rw [zm_213]; decide +kernel
theorem zo_213_640 : zzOp 213 640 = some (.iconst 2, 1) := by unfold zzOp; rw [zm_213]; decide +kernel
theorem zo_213_641 : zzOp 213 641 = some (.iadd, 1) := by unfold zzOp; rw [zm_213]; decide +kernel
theorem zo_213_642 : zzOp 213 642 = some (.iaload, 1) := by unfold zzOp; rw [zm_213]; decide +kernel
theorem zo_213_643 : zzOp 213 643 = some (.invokevirtual 84, 3) := by unfold zzOp; rw [zm_213]; decide +kernel
theorem zo_213_646 : zzOp 213 646 = some (.if_icmp .eq 379, 3) := by unfold zzOp; rw [zm_213]; decide +kernel
theorem zo_213_649 : zzOp 213 649 = some (.iconst 0, 1) := by unfold zzOp; rw [zm_213]; decide +kernel
theorem zo_213_650 : zzOp 213 650 = some (.ireturn, 1) := by unfold zzOp; rw [zm_213]; decide +kernel
theorem zo_213_651 : zzOp 213 651 = some (.aload_n 1, 1) := by unfold zzOp; rw [zm_213]; decide +kernel
theorem zo_213_652 : zzOp 213 652 = some (.aload_n 0, 1) := by unfold zzOp; rw [zm_213]; decide +kernel
theorem zo_213_653 : zzOp 213 653 = some (.iload_n 3, 1) := by unfold zzOp; rw [zm_213]; decide +kernel
theorem zo_213_654 : zzOp 213 654 = some (.iconst 1, 1) := by unfold zzOp; rw [zm_213]; decide +kernel
theorem zo_213_655 : zzOp 213 655 = some (.iadd, 1) := by unfold zzOp; rw [zm_213]; decide +kernel
theorem zo_213_656 : zzOp 213 656 = some (.iaload, 1) := by unfold zzOp; rw [zm_213]; decide +kernel
theorem zo_213_657 : zzOp 213 657 = some (.invokevirtual 85, 3) := by unfold zzOp; rw [zm_213]; decide +kernel
theorem zo_213_660 : zzOp 213 660 = some (.aload_n 2, 1) := by unfold zzOp; rw [zm_213]; decide +kernel
theorem zo_213_661 : zzOp 213 661 = some (.aload_n 0, 1) := by unfold zzOp; rw [zm_213]; decide +kernel
theorem zo_213_662 : zzOp 213 662 = some (.iload_n 3, 1) := by unfold zzOp; rw [zm_213]; decide +kernel
theorem zo_213_663 : zzOp 213 663 = some (.iconst 1, 1) := by unfold zzOp; rw [zm_213]; decide +kernel
theorem zo_213_664 : zzOp 213 664 = some (.iadd, 1) := by unfold zzOp; rw [zm_213]; decide +kernel
theorem zo_213_665 : zzOp 213 665 = some (.iaload, 1) := by unfold zzOp; rw [zm_213]; decide +kernel
theorem zo_213_666 : zzOp 213 666 = some (.invokevirtual 88, 3) := by unfold zzOp; rw [zm_213]; decide +kernel
theorem zo_213_669 : zzOp 213 669 = some (.if_icmp .eq 356, 3) := by unfold zzOp; rw [zm_213]; decide +kernel
theorem zo_213_672 : zzOp 213 672 = some (.iconst 0, 1) := by unfold zzOp; rw [zm_213]; decide +kernel
theorem zo_213_673 : zzOp 213 673 = some (.ireturn, 1) := by unfold zzOp; rw [zm_213]; decide +kernel
theorem zo_213_674 : zzOp 213 674 = some (.aload_n 1, 1) := by unfold zzOp; rw [zm_213]; decide +kernel
theorem zo_213_675 : zzOp 213 675 = some (.aload_n 0, 1) := by unfold zzOp; rw [zm_213]; decide +kernel
theorem zo_213_676 : zzOp 213 676 = some (.iload_n 3, 1) := by unfold zzOp; rw [zm_213]; decide +kernel
theorem zo_213_677 : zzOp 213 677 = some (.iconst 1, 1) := by unfold zzOp; rw [zm_213]; decide +kernel
theorem zo_213_678 : zzOp 213 678 = some (.iadd, 1) := by unfold zzOp; rw [zm_213]; decide +kernel
theorem zo_213_679 : zzOp 213 679 = some (.iaload, 1) := by unfold zzOp; rw [zm_213]; decide +kernel
theorem zo_213_680 : zzOp 213 680 = some (.invokevirtual 89, 3) := by unfold zzOp; rw [zm_213]; decide +kernel
theorem zo_213_683 : zzOp 213 683 = some (.aload_n 2, 1) := by unfold zzOp; rw [zm_213]; decide +kernel
theorem zo_213_684 : zzOp 213 684 = some (.aload_n 0, 1) := by unfold zzOp; rw [zm_213]; decide +kernel
theorem zo_213_685 : zzOp 213 685 = some (.iload_n 3, 1) := by unfold zzOp; rw [zm_213]; decide +kernel
theorem zo_213_686 : zzOp 213 686 = some (.iconst 1, 1) := by unfold zzOp; rw [zm_213]; decide +kernel
theorem zo_213_687 : zzOp 213 687 = some (.iadd, 1) := by unfold zzOp; rw [zm_213]; decide +kernel
theorem zo_213_688 : zzOp 213 688 = some (.iaload, 1) := by unfold zzOp; rw [zm_213]; decide +kernel
theorem zo_213_689 : zzOp 213 689 = some (.invokevirtual 92, 3) := by unfold zzOp; rw [zm_213]; decide +kernel
theorem zo_213_692 : zzOp 213 692 = some (.if_icmp .eq 333, 3) := by unfold zzOp; rw [zm_213]; decide +kernel
theorem zo_213_695 : zzOp 213 695 = some (.iconst 0, 1) := by unfold zzOp; rw [zm_213]; decide +kernel
theorem zo_213_696 : zzOp 213 696 = some (.ireturn, 1) := by unfold zzOp; rw [zm_213]; decide +kernel
theorem zo_213_697 : zzOp 213 697 = some (.aload_n 1, 1) := by unfold zzOp; rw [zm_213]; decide +kernel
theorem zo_213_698 : zzOp 213 698 = some (.aload_n 0, 1) := by unfold zzOp; rw [zm_213]; decide +kernel
theorem zo_213_699 : zzOp 213 699 = some (.iload_n 3, 1) := by unfold zzOp; rw [zm_213]; decide +kernel
theorem zo_213_700 : zzOp 213 700 = some (.iconst 1, 1) := by unfold zzOp; rw [zm_213]; decide +kernel
theorem zo_213_701 : zzOp 213 701 = some (.iadd, 1) := by unfold zzOp; rw [zm_213]; decide +kernel
theorem zo_213_702 : zzOp 213 702 = some (.iaload, 1) := by unfold zzOp; rw [zm_213]; decide +kernel
theorem zo_213_703 : zzOp 213 703 = some (.aload_n 0, 1) := by unfold zzOp; rw [zm_213]; decide +kernel
theorem zo_213_704 : zzOp 213 704 = some (.iload_n 3, 1) := by unfold zzOp; rw [zm_213]; decide +kernel
theorem zo_213_705 : zzOp 213 705 = some (.iconst 2, 1) := by unfold zzOp; rw [zm_213]; decide +kernel
theorem zo_213_706 : zzOp 213 706 = some (.iadd, 1) := by unfold zzOp; rw [zm_213]; decide +kernel
theorem zo_213_707 : zzOp 213 707 = some (.iaload, 1) := by unfold zzOp; rw [zm_213]; decide +kernel
theorem zo_213_708 : zzOp 213 708 = some (.aload_n 0, 1) := by unfold zzOp; rw [zm_213]; decide +kernel
theorem zo_213_709 : zzOp 213 709 = some (.iload_n 3, 1) := by unfold zzOp; rw [zm_213]; decide +kernel
theorem zo_213_710 : zzOp 213 710 = some (.iconst 3, 1) := by unfold zzOp; rw [zm_213]; decide +kernel
theorem zo_213_711 : zzOp 213 711 = some (.iadd, 1) := by unfold zzOp; rw [zm_213]; decide +kernel
theorem zo_213_712 : zzOp 213 712 = some (.iaload, 1) := by unfold zzOp; rw [zm_213]; decide +kernel
theorem zo_213_713 : zzOp 213 713 = some (.invokevirtual 93, 3) := by unfold zzOp; rw [zm_213]; decide +kernel
theorem zo_213_716 : zzOp 213 716 = some (.aload_n 2, 1) := by unfold zzOp; rw [zm_213]; decide +kernel
theorem zo_213_717 : zzOp 213 717 = some (.aload_n 0, 1) := by unfold zzOp; rw [zm_213]; decide +kernel
theorem zo_213_718 : zzOp 213 718 = some (.iload_n 3, 1) := by unfold zzOp; rw [zm_213]; decide +kernel
theorem zo_213_719 : zzOp 213 719 = some (.iconst 1, 1) := by unfold zzOp; rw [zm_213]; decide +kernel
theorem zo_213_720 : zzOp 213 720 = some (.iadd, 1) := by unfold zzOp; rw [zm_213]; decide +kernel
theorem zo_213_721 : zzOp 213 721 = some (.iaload, 1) := by unfold zzOp; rw [zm_213]; decide +kernel
theorem zo_213_722 : zzOp 213 722 = some (.aload_n 0, 1) := by unfold zzOp; rw [zm_213]; decide +kernel
theorem zo_213_723 : zzOp 213 723 = some (.iload_n 3, 1) := by unfold zzOp; rw [zm_213]; decide +kernel
theorem zo_213_724 : zzOp 213 724 = some (.iconst 2, 1) := by unfold zzOp; rw [zm_213]; decide +kernel
theorem zo_213_725 : zzOp 213 725 = some (.iadd, 1) := by unfold zzOp; rw [zm_213]; decide +kernel
theorem zo_213_726 : zzOp 213 726 = some (.iaload, 1) := by unfold zzOp; rw [zm_213]; decide +kernel
theorem zo_213_727 : zzOp 213 727 = some (.aload_n 0, 1) := by unfold zzOp; rw [zm_213]; decide +kernel
theorem zo_213_728 : zzOp 213 728 = some (.iload_n 3, 1) := by unfold zzOp; rw [zm_213]; decide +kernel
theorem zo_213_729 : zzOp 213 729 = some (.iconst 3, 1) := by unfold zzOp; rw [zm_213]; decide +kernel
theorem zo_213_730 : zzOp 213 730 = some (.iadd, 1) := by unfold zzOp; rw [zm_213]; decide +kernel
theorem zo_213_731 : zzOp 213 731 = some (.iaload, 1) := by unfold zzOp; rw [zm_213]; decide +kernel
theorem zo_213_732 : zzOp 213 732 = some (.invokevirtual 97, 3) := by unfold zzOp; rw [zm_213]; decide +kernel
theorem zo_213_735 : zzOp 213 735 = some (.lcmp, 1) := by unfold zzOp; rw [zm_213]; decide +kernel
theorem zo_213_736 : zzOp 213 736 = some (.ifCond .eq 289, 3) := by unfold zzOp; rw [zm_213]; decide +kernel
theorem zo_213_739 : zzOp 213 739 = some (.iconst 0, 1) := by unfold zzOp; rw [zm_213]; decide +kernel
theorem zo_213_740 : zzOp 213 740 = some (.ireturn, 1) := by unfold zzOp; rw [zm_213]; decide +kernel
theorem zo_213_741 : zzOp 213 741 = some (.aload_n 1, 1) := by unfold zzOp; rw [zm_213]; decide +kernel
theorem zo_213_742 : zzOp 213 742 = some (.invokevirtual 98, 3) := by unfold zzOp; rw [zm_213]; decide +kernel
theorem zo_213_745 : zzOp 213 745 = some (.aload_n 2, 1) := by unfold zzOp; rw [zm_213]; decide +kernel
theorem zo_213_746 : zzOp 213 746 = some (.invokevirtual 101, 3) := by unfold zzOp; rw [zm_213]; decide +kernel
theorem zo_213_749 : zzOp 213 749 = some (.if_icmp .eq 276, 3) := by unfold zzOp; rw [zm_213]; decide +kernel
theorem zo_213_752 : zzOp 213 752 = some (.iconst 0, 1) := by unfold zzOp; rw [zm_213]; decide +kernel
theorem zo_213_753 : zzOp 213 753 = some (.ireturn, 1) := by unfold zzOp; rw [zm_213]; decide +kernel
theorem zo_213_754 : zzOp 213 754 = some (.aload_n 1, 1) := by unfold zzOp; rw [zm_213]; decide +kernel
theorem zo_213_755 : zzOp 213 755 = some (.invokevirtual 102, 3) := by unfold zzOp; rw [zm_213]; decide +kernel
theorem zo_213_758 : zzOp 213 758 = some (.aload_n 2, 1) := by unfold zzOp; rw [zm_213]; decide +kernel
theorem zo_213_759 : zzOp 213 759 = some (.invokevirtual 105, 3) := by unfold zzOp; rw [zm_213]; decide +kernel
theorem zo_213_762 : zzOp 213 762 = some (.if_icmp .eq 263, 3) := by unfold zzOp; rw [zm_213]; decide +kernel
theorem zo_213_765 : zzOp 213 765 = some (.iconst 0, 1) := by unfold zzOp; rw [zm_213]; decide +kernel
theorem zo_213_766 : zzOp 213 766 = some (.ireturn, 1) := by unfold zzOp; rw [zm_213]; decide +kernel
theorem zo_213_767 : zzOp 213 767 = some (.aload_n 1, 1) := by unfold zzOp; rw [zm_213]; decide +kernel
theorem zo_213_768 : zzOp 213 768 = some (.aload_n 0, 1) := by unfold zzOp; rw [zm_213]; decide +kernel
theorem zo_213_769 : zzOp 213 769 = some (.iload_n 3, 1) := by unfold zzOp; rw [zm_213]; decide +kernel
theorem zo_213_770 : zzOp 213 770 = some (.iconst 1, 1) := by unfold zzOp; rw [zm_213]; decide +kernel
theorem zo_213_771 : zzOp 213 771 = some (.iadd, 1) := by unfold zzOp; rw [zm_213]; decide +kernel
theorem zo_213_772 : zzOp 213 772 = some (.iaload, 1) := by unfold zzOp; rw [zm_213]; decide +kernel
theorem zo_213_773 : zzOp 213 773 = some (.invokevirtual 106, 3) := by unfold zzOp; rw [zm_213]; decide +kernel
theorem zo_213_776 : zzOp 213 776 = some (.aload_n 2, 1) := by unfold zzOp; rw [zm_213]; decide +kernel
theorem zo_213_777 : zzOp 213 777 = some (.aload_n 0, 1) := by unfold zzOp; rw [zm_213]; decide +kernel
theorem zo_213_778 : zzOp 213 778 = some (.iload_n 3, 1) := by unfold zzOp; rw [zm_213]; decide +kernel
theorem zo_213_779 : zzOp 213 779 = some (.iconst 1, 1) := by unfold zzOp; rw [zm_213]; decide +kernel
theorem zo_213_780 : zzOp 213 780 = some (.iadd, 1) := by unfold zzOp; rw [zm_213]; decide +kernel
theorem zo_213_781 : zzOp 213 781 = some (.iaload, 1) := by unfold zzOp; rw [zm_213]; decide +kernel
theorem zo_213_782 : zzOp 213 782 = some (.invokevirtual 109, 3) := by unfold zzOp; rw [zm_213]; decide +kernel
theorem zo_213_785 : zzOp 213 785 = some (.if_icmp .eq 240, 3) := by unfold zzOp; rw [zm_213]; decide +kernel
theorem zo_213_788 : zzOp 213 788 = some (.iconst 0, 1) := by unfold zzOp; rw [zm_213]; decide +kernel
theorem zo_213_789 : zzOp 213 789 = some (.ireturn, 1) := by unfold zzOp; rw [zm_213]; decide +kernel
theorem zo_213_790 : zzOp 213 790 = some (.aload_n 1, 1) := by unfold zzOp; rw [zm_213]; decide +kernel
theorem zo_213_791 : zzOp 213 791 = some (.aload_n 0, 1) := by unfold zzOp; rw [zm_213]; decide +kernel
theorem zo_213_792 : zzOp 213 792 = some (.iload_n 3, 1) := by unfold zzOp; rw [zm_213]; decide +kernel
theorem zo_213_793 : zzOp 213 793 = some (.iconst 1, 1) := by unfold zzOp; rw [zm_213]; decide +kernel
theorem zo_213_794 : zzOp 213 794 = some (.iadd, 1) := by unfold zzOp; rw [zm_213]; decide +kernel
theorem zo_213_795 : zzOp 213 795 = some (.iaload, 1) := by unfold zzOp; rw [zm_213]; decide +kernel
theorem zo_213_796 : zzOp 213 796 = some (.aload_n 0, 1) := by unfold zzOp; rw [zm_213]; decide +kernel
theorem zo_213_797 : zzOp 213 797 = some (.iload_n 3, 1) := by unfold zzOp; rw [zm_213]; decide +kernel
theorem zo_213_798 : zzOp 213 798 = some (.iconst 2, 1) := by unfold zzOp; rw [zm_213]; decide +kernel
theorem zo_213_799 : zzOp 213 799 = some (.iadd, 1) := by unfold zzOp; rw [zm_213]; decide +kernel
theorem zo_213_800 : zzOp 213 800 = some (.iaload, 1) := by unfold zzOp; rw [zm_213]; decide +kernel
theorem zo_213_801 : zzOp 213 801 = some (.aload_n 0, 1) := by unfold zzOp; rw [zm_213]; decide +kernel
theorem zo_213_802 : zzOp 213 802 = some (.iload_n 3, 1) := by unfold zzOp; rw [zm_213]; decide +kernel
theorem zo_213_803 : zzOp 213 803 = some (.iconst 3, 1) := by unfold zzOp; rw [zm_213]; decide +kernel
theorem zo_213_804 : zzOp 213 804 = some (.iadd, 1) := by unfold zzOp; rw [zm_213]; decide +kernel
theorem zo_213_805 : zzOp 213 805 = some (.iaload, 1) := by unfold zzOp; rw [zm_213]; decide +kernel
theorem zo_213_806 : zzOp 213 806 = some (.invokevirtual 110, 3) := by unfold zzOp; rw [zm_213]; decide +kernel
theorem zo_213_809 : zzOp 213 809 = some (.aload_n 2, 1) := by unfold zzOp; rw [zm_213]; decide +kernel
theorem zo_213_810 : zzOp 213 810 = some (.aload_n 0, 1) := by unfold zzOp; rw [zm_213]; decide +kernel
theorem zo_213_811 : zzOp 213 811 = some (.iload_n 3, 1) := by unfold zzOp; rw [zm_213]; decide +kernel
theorem zo_213_812 : zzOp 213 812 = some (.iconst 1, 1) := by unfold zzOp; rw [zm_213]; decide +kernel
theorem zo_213_813 : zzOp 213 813 = some (.iadd, 1) := by unfold zzOp; rw [zm_213]; decide +kernel
theorem zo_213_814 : zzOp 213 814 = some (.iaload, 1) := by unfold zzOp; rw [zm_213]; decide +kernel
theorem zo_213_815 : zzOp 213 815 = some (.aload_n 0, 1) := by unfold zzOp; rw [zm_213]; decide +kernel
theorem zo_213_816 : zzOp 213 816 = some (.iload_n 3, 1) := by unfold zzOp; rw [zm_213]; decide +kernel
theorem zo_213_817 : zzOp 213 817 = some (.iconst 2, 1) := by unfold zzOp; rw [zm_213]; decide +kernel
theorem zo_213_818 : zzOp 213 818 = some (.iadd, 1) := by unfold zzOp; rw [zm_213]; decide +kernel
theorem zo_213_819 : zzOp 213 819 = some (.iaload, 1) := by unfold zzOp; rw [zm_213]; decide +kernel
theorem zo_213_820 : zzOp 213 820 = some (.aload_n 0, 1) := by unfold zzOp; rw [zm_213]; decide +kernel
theorem zo_213_821 : zzOp 213 821 = some (.iload_n 3, 1) := by unfold zzOp; rw [zm_213]; decide +kernel
theorem zo_213_822 : zzOp 213 822 = some (.iconst 3, 1) := by unfold zzOp; rw [zm_213]; decide +kernel
theorem zo_213_823 : zzOp 213 823 = some (.iadd, 1) := by unfold zzOp; rw [zm_213]; decide +kernel
theorem zo_213_824 : zzOp 213 824 = some (.iaload, 1) := by unfold zzOp; rw [zm_213]; decide +kernel
theorem zo_213_825 : zzOp 213 825 = some (.invokevirtual 113, 3) := by unfold zzOp; rw [zm_213]; decide +kernel
theorem zo_213_828 : zzOp 213 828 = some (.if_icmp .eq 197, 3) := by unfold zzOp; rw [zm_213]; decide +kernel
theorem zo_213_831 : zzOp 213 831 = some (.iconst 0, 1) := by unfold zzOp; rw [zm_213]; decide +kernel
theorem zo_213_832 : zzOp 213 832 = some (.ireturn, 1) := by unfold zzOp; rw [zm_213]; decide +kernel
theorem zo_213_833 : zzOp 213 833 = some (.aload_n 1, 1) := by unfold zzOp; rw [zm_213]; decide +kernel
theorem zo_213_834 : zzOp 213 834 = some (.aload_n 0, 1) := by unfold zzOp; rw [zm_213]; decide +kernel
theorem zo_213_835 : zzOp 213 835 = some (.iload_n 3, 1) := by unfold zzOp; rw [zm_213]; decide +kernel
theorem zo_213_836 : zzOp 213 836 = some (.iconst 1, 1) := by unfold zzOp; rw [zm_213]; decide +kernel
theorem zo_213_837 : zzOp 213 837 = some (.iadd, 1) := by unfold zzOp; rw [zm_213]; decide +kernel
theorem zo_213_838 : zzOp 213 838 = some (.iaload, 1) := by unfold zzOp; rw [zm_213]; decide +kernel
theorem zo_213_839 : zzOp 213 839 = some (.aload_n 0, 1) := by unfold zzOp; rw [zm_213]; decide +kernel
theorem zo_213_840 : zzOp 213 840 = some (.iload_n 3, 1) := by unfold zzOp; rw [zm_213]; decide +kernel
theorem zo_213_841 : zzOp 213 841 = some (.iconst 2, 1) := by unfold zzOp; rw [zm_213]; decide +kernel
theorem zo_213_842 : zzOp 213 842 = some (.iadd, 1) := by unfold zzOp; rw [zm_213]; decide +kernel
theorem zo_213_843 : zzOp 213 843 = some (.iaload, 1) := by unfold zzOp; rw [zm_213]; decide +kernel
theorem zo_213_844 : zzOp 213 844 = some (.aload_n 0, 1) := by unfold zzOp; rw [zm_213]; decide +kernel
theorem zo_213_845 : zzOp 213 845 = some (.iload_n 3, 1) := by unfold zzOp; rw [zm_213]; decide +kernel
theorem zo_213_846 : zzOp 213 846 = some (.iconst 3, 1) := by unfold zzOp; rw [zm_213]; decide +kernel
theorem zo_213_847 : zzOp 213 847 = some (.iadd, 1) := by unfold zzOp; rw [zm_213]; decide +kernel
theorem zo_213_848 : zzOp 213 848 = some (.iaload, 1) := by unfold zzOp; rw [zm_213]; decide +kernel
theorem zo_213_849 : zzOp 213 849 = some (.invokevirtual 114, 3) := by unfold zzOp; rw [zm_213]; decide +kernel
theorem zo_213_852 : zzOp 213 852 = some (.aload_n 2, 1) := by unfold zzOp; rw [zm_213]; decide +kernel
theorem zo_213_853 : zzOp 213 853 = some (.aload_n 0, 1) := by unfold zzOp; rw [zm_213]; decide +kernel
theorem zo_213_854 : zzOp 213 854 = some (.iload_n 3, 1) := by unfold zzOp; rw [zm_213]; decide +kernel
theorem zo_213_855 : zzOp 213 855 = some (.iconst 1, 1) := by unfold zzOp; rw [zm_213]; decide +kernel
theorem zo_213_856 : zzOp 213 856 = some (.iadd, 1) := by unfold zzOp; rw [zm_213]; decide +kernel
theorem zo_213_857 : zzOp 213 857 = some (.iaload, 1) := by unfold zzOp; rw [zm_213]; decide +kernel
theorem zo_213_858 : zzOp 213 858 = some (.aload_n 0, 1) := by unfold zzOp; rw [zm_213]; decide +kernel
theorem zo_213_859 : zzOp 213 859 = some (.iload_n 3, 1) := by unfold zzOp; rw [zm_213]; decide +kernel
theorem zo_213_860 : zzOp 213 860 = some (.iconst 2, 1) := by unfold zzOp; rw [zm_213]; decide +kernel
theorem zo_213_861 : zzOp 213 861 = some (.iadd, 1) := by unfold zzOp; rw [zm_213]; decide +kernel
theorem zo_213_862 : zzOp 213 862 = some (.iaload, 1) := by unfold zzOp; rw [zm_213]; decide +kernel
theorem zo_213_863 : zzOp 213 863 = some (.aload_n 0, 1) := by unfold zzOp; rw [zm_213]; decide +kernel
theorem zo_213_864 : zzOp 213 864 = some (.iload_n 3, 1) := by unfold zzOp; rw [zm_213]; decide +kernel
theorem zo_213_865 : zzOp 213 865 = some (.iconst 3, 1) := by unfold zzOp; rw [zm_213]; decide +kernel
theorem zo_213_866 : zzOp 213 866 = some (.iadd, 1) := by unfold zzOp; rw [zm_213]; decide +kernel
theorem zo_213_867 : zzOp 213 867 = some (.iaload, 1) := by unfold zzOp; rw [zm_213]; decide +kernel
theorem zo_213_868 : zzOp 213 868 = some (.invokevirtual 117, 3) := by unfold zzOp; rw [zm_213]; decide +kernel
theorem zo_213_871 : zzOp 213 871 = some (.if_icmp .eq 154, 3) := by unfold zzOp; rw [zm_213]; decide +kernel
theorem zo_213_874 : zzOp 213 874 = some (.iconst 0, 1) := by unfold zzOp; rw [zm_213]; decide +kernel
theorem zo_213_875 : zzOp 213 875 = some (.ireturn, 1) := by unfold zzOp; rw [zm_213]; decide +kernel
theorem zo_213_876 : zzOp 213 876 = some (.aload_n 1, 1) := by unfold zzOp; rw [zm_213]; decide +kernel
theorem zo_213_877 : zzOp 213 877 = some (.aload_n 0, 1) := by unfold zzOp; rw [zm_213]; decide +kernel
theorem zo_213_878 : zzOp 213 878 = some (.iload_n 3, 1) := by unfold zzOp; rw [zm_213]; decide +kernel
theorem zo_213_879 : zzOp 213 879 = some (.iconst 1, 1) := by unfold zzOp; rw [zm_213]; decide +kernel
theorem zo_213_880 : zzOp 213 880 = some (.iadd, 1) := by unfold zzOp; rw [zm_213]; decide +kernel
theorem zo_213_881 : zzOp 213 881 = some (.iaload, 1) := by unfold zzOp; rw [zm_213]; decide +kernel
theorem zo_213_882 : zzOp 213 882 = some (.aload_n 0, 1) := by unfold zzOp; rw [zm_213]; decide +kernel
theorem zo_213_883 : zzOp 213 883 = some (.iload_n 3, 1) := by unfold zzOp; rw [zm_213]; decide +kernel
theorem zo_213_884 : zzOp 213 884 = some (.iconst 2, 1) := by unfold zzOp; rw [zm_213]; decide +kernel
theorem zo_213_885 : zzOp 213 885 = some (.iadd, 1) := by unfold zzOp; rw [zm_213]; decide +kernel
theorem zo_213_886 : zzOp 213 886 = some (.iaload, 1) := by unfold zzOp; rw [zm_213]; decide +kernel
theorem zo_213_887 : zzOp 213 887 = some (.aload_n 0, 1) := by unfold zzOp; rw [zm_213]; decide +kernel
theorem zo_213_888 : zzOp 213 888 = some (.iload_n 3, 1) := by unfold zzOp; rw [zm_213]; decide +kernel
theorem zo_213_889 : zzOp 213 889 = some (.iconst 3, 1) := by unfold zzOp; rw [zm_213]; decide +kernel
theorem zo_213_890 : zzOp 213 890 = some (.iadd, 1) := by unfold zzOp; rw [zm_213]; decide +kernel
theorem zo_213_891 : zzOp 213 891 = some (.iaload, 1) := by unfold zzOp; rw [zm_213]; decide +kernel
theorem zo_213_892 : zzOp 213 892 = some (.aload_n 0, 1) := by unfold zzOp; rw [zm_213]; decide +kernel
theorem zo_213_893 : zzOp 213 893 = some (.iload_n 3, 1) := by unfold zzOp; rw [zm_213]; decide +kernel
theorem zo_213_894 : zzOp 213 894 = some (.iconst 4, 1) := by unfold zzOp; rw [zm_213]; decide +kernel
theorem zo_213_895 : zzOp 213 895 = some (.iadd, 1) := by unfold zzOp; rw [zm_213]; decide +kernel
theorem zo_213_896 : zzOp 213 896 = some (.iaload, 1) := by unfold zzOp; rw [zm_213]; decide +kernel
theorem zo_213_897 : zzOp 213 897 = some (.aload_n 0, 1) := by unfold zzOp; rw [zm_213]; decide +kernel
theorem zo_213_898 : zzOp 213 898 = some (.iload_n 3, 1) := by unfold zzOp; rw [zm_213]; decide +kernel
theorem zo_213_899 : zzOp 213 899 = some (.iconst 5, 1) := by unfold zzOp; rw [zm_213]; decide +kernel
theorem zo_213_900 : zzOp 213 900 = some (.iadd, 1) := by unfold zzOp; rw [zm_213]; decide +kernel
theorem zo_213_901 : zzOp 213 901 = some (.iaload, 1) := by unfold zzOp; rw [zm_213]; decide +kernel
theorem zo_213_902 : zzOp 213 902 = some (.invokevirtual 118, 3) := by unfold zzOp; rw [zm_213]; decide +kernel
theorem zo_213_905 : zzOp 213 905 = some (.aload_n 2, 1) := by unfold zzOp; rw [zm_213]; decide +kernel
theorem zo_213_906 : zzOp 213 906 = some (.aload_n 0, 1) := by unfold zzOp; rw [zm_213]; decide +kernel
theorem zo_213_907 : zzOp 213 907 = some (.iload_n 3, 1) := by unfold zzOp; rw [zm_213]; decide +kernel
theorem zo_213_908 : zzOp 213 908 = some (.iconst 1, 1) := by unfold zzOp; rw [zm_213]; decide +kernel
theorem zo_213_909 : zzOp 213 909 = some (.iadd, 1) := by unfold zzOp; rw [zm_213]; decide +kernel
theorem zo_213_910 : zzOp 213 910 = some (.iaload, 1) := by unfold zzOp; rw [zm_213]; decide +kernel
theorem zo_213_911 : zzOp 213 911 = some (.aload_n 0, 1) := by unfold zzOp; rw [zm_213]; decide +kernel
theorem zo_213_912 : zzOp 213 912 = some (.iload_n 3, 1) := by unfold zzOp; rw [zm_213]; decide +kernel
theorem zo_213_913 : zzOp 213 913 = some (.iconst 2, 1) := by unfold zzOp; rw [zm_213]; decide +kernel
theorem zo_213_914 : zzOp 213 914 = some (.iadd, 1) := by unfold zzOp; rw [zm_213]; decide +kernel
theorem zo_213_915 : zzOp 213 915 = some (.iaload, 1) := by unfold zzOp; rw [zm_213]; decide +kernel
theorem zo_213_916 : zzOp 213 916 = some (.aload_n 0, 1) := by unfold zzOp; rw [zm_213]; decide +kernel
theorem zo_213_917 : zzOp 213 917 = some (.iload_n 3, 1) := by unfold zzOp; rw [zm_213]; decide +kernel
theorem zo_213_918 : zzOp 213 918 = some (.iconst 3, 1) := by unfold zzOp; rw [zm_213]; decide +kernel
theorem zo_213_919 : zzOp 213 919 = some (.iadd, 1) := by unfold zzOp; rw [zm_213]; decide +kernel
theorem zo_213_920 : zzOp 213 920 = some (.iaload, 1) := by unfold zzOp; rw [zm_213]; decide +kernel
theorem zo_213_921 : zzOp 213 921 = some (.aload_n 0, 1) := by unfold zzOp; rw [zm_213]; decide +kernel
theorem zo_213_922 : zzOp 213 922 = some (.iload_n 3, 1) := by unfold zzOp; rw [zm_213]; decide +kernel
theorem zo_213_923 : zzOp 213 923 = some (.iconst 4, 1) := by unfold zzOp; rw [zm_213]; decide +kernel
theorem zo_213_924 : zzOp 213 924 = some (.iadd, 1) := by unfold zzOp; rw [zm_213]; decide +kernel
theorem zo_213_925 : zzOp 213 925 = some (.iaload, 1) := by unfold zzOp; rw [zm_213]; decide +kernel
theorem zo_213_926 : zzOp 213 926 = some (.aload_n 0, 1) := by unfold zzOp; rw [zm_213]; decide +kernel
theorem zo_213_927 : zzOp 213 927 = some (.iload_n 3, 1) := by unfold zzOp; rw [zm_213]; decide +kernel
theorem zo_213_928 : zzOp 213 928 = some (.iconst 5, 1) := by unfold zzOp; rw [zm_213]; decide +kernel
theorem zo_213_929 : zzOp 213 929 = some (.iadd, 1) := by unfold zzOp; rw [zm_213]; decide +kernel
theorem zo_213_930 : zzOp 213 930 = some (.iaload, 1) := by unfold zzOp; rw [zm_213]; decide +kernel
theorem zo_213_931 : zzOp 213 931 = some (.invokevirtual 122, 3) := by unfold zzOp; rw [zm_213]; decide +kernel
theorem zo_213_934 : zzOp 213 934 = some (.if_icmp .eq 91, 3) := by unfold zzOp; rw [zm_213]; decide +kernel
theorem zo_213_937 : zzOp 213 937 = some (.iconst 0, 1) := by unfold zzOp; rw [zm_213]; decide +kernel
theorem zo_213_938 : zzOp 213 938 = some (.ireturn, 1) := by unfold zzOp; rw [zm_213]; decide +kernel
theorem zo_213_939 : zzOp 213 939 = some (.aload_n 1, 1) := by unfold zzOp; rw [zm_213]; decide +kernel
theorem zo_213_940 : zzOp 213 940 = some (.aload_n 0, 1) := by unfold zzOp; rw [zm_213]; decide +kernel
theorem zo_213_941 : zzOp 213 941 = some (.iload_n 3, 1) := by unfold zzOp; rw [zm_213]; decide +kernel
theorem zo_213_942 : zzOp 213 942 = some (.iconst 1, 1) := by unfold zzOp; rw [zm_213]; decide +kernel
theorem zo_213_943 : zzOp 213 943 = some (.iadd, 1) := by unfold zzOp; rw [zm_213]; decide +kernel
theorem zo_213_944 : zzOp 213 944 = some (.iaload, 1) := by unfold zzOp; rw [zm_213]; decide +kernel
theorem zo_213_945 : zzOp 213 945 = some (.aload_n 0, 1) := by unfold zzOp; rw [zm_213]; decide +kernel
theorem zo_213_946 : zzOp 213 946 = some (.iload_n 3, 1) := by unfold zzOp; rw [zm_213]; decide +kernel
theorem zo_213_947 : zzOp 213 947 = some (.iconst 2, 1) := by unfold zzOp; rw [zm_213]; decide +kernel
theorem zo_213_948 : zzOp 213 948 = some (.iadd, 1) := by unfold zzOp; rw [zm_213]; decide +kernel
theorem zo_213_949 : zzOp 213 949 = some (.iaload, 1) := by unfold zzOp; rw [zm_213]; decide +kernel
theorem zo_213_950 : zzOp 213 950 = some (.aload_n 0, 1) := by unfold zzOp; rw [zm_213]; decide +kernel
theorem zo_213_951 : zzOp 213 951 = some (.iload_n 3, 1) := by unfold zzOp; rw [zm_213]; decide +kernel
theorem zo_213_952 : zzOp 213 952 = some (.iconst 3, 1) := by unfold zzOp; rw [zm_213]; decide +kernel
theorem zo_213_953 : zzOp 213 953 = some (.iadd, 1) := by unfold zzOp; rw [zm_213]; decide +kernel
theorem zo_213_954 : zzOp 213 954 = some (.iaload, 1) := by unfold zzOp; rw [zm_213]; decide +kernel
theorem zo_213_955 : zzOp 213 955 = some (.aload_n 0, 1) := by unfold zzOp; rw [zm_213]; decide +kernel
theorem zo_213_956 : zzOp 213 956 = some (.iload_n 3, 1) := by unfold zzOp; rw [zm_213]; decide +kernel
theorem zo_213_957 : zzOp 213 957 = some (.iconst 4, 1) := by unfold zzOp; rw [zm_213]; decide +kernel
theorem zo_213_958 : zzOp 213 958 = some (.iadd, 1) := by unfold zzOp; rw [zm_213]; decide +kernel
theorem zo_213_959 : zzOp 213 959 = some (.iaload, 1) := by unfold zzOp; rw [zm_213]; decide +kernel
theorem zo_213_960 : zzOp 213 960 = some (.invokevirtual 123, 3) := by unfold zzOp; rw [zm_213]; decide +kernel
theorem zo_213_963 : zzOp 213 963 = some (.aload_n 2, 1) := by unfold zzOp; rw [zm_213]; decide +kernel
theorem zo_213_964 : zzOp 213 964 = some (.aload_n 0, 1) := by unfold zzOp; rw [zm_213]; decide +kernel
theorem zo_213_965 : zzOp 213 965 = some (.iload_n 3, 1) := by unfold zzOp; rw [zm_213]; decide +kernel
theorem zo_213_966 : zzOp 213 966 = some (.iconst 1, 1) := by unfold zzOp; rw [zm_213]; decide +kernel
theorem zo_213_967 : zzOp 213 967 = some (.iadd, 1) := by unfold zzOp; rw [zm_213]; decide +kernel
theorem zo_213_968 : zzOp 213 968 = some (.iaload, 1) := by unfold zzOp; rw [zm_213]; decide +kernel
theorem zo_213_969 : zzOp 213 969 = some (.aload_n 0, 1) := by unfold zzOp; rw [zm_213]; decide +kernel
theorem zo_213_970 : zzOp 213 970 = some (.iload_n 3, 1) := by unfold zzOp; rw [zm_213]; decide +kernel
theorem zo_213_971 : zzOp 213 971 = some (.iconst 2, 1) := by unfold zzOp; rw [zm_213]; decide +kernel
theorem zo_213_972 : zzOp 213 972 = some (.iadd, 1) := by unfold zzOp; rw [zm_213]; decide +kernel
theorem zo_213_973 : zzOp 213 973 = some (.iaload, 1) := by unfold zzOp; rw [zm_213]; decide +kernel
theorem zo_213_974 : zzOp 213 974 = some (.aload_n 0, 1) := by unfold zzOp; rw [zm_213]; decide +kernel
theorem zo_213_975 : zzOp 213 975 = some (.iload_n 3, 1) := by unfold zzOp; rw [zm_213]; decide +kernel
theorem zo_213_976 : zzOp 213 976 = some (.iconst 3, 1) := by unfold zzOp; rw [zm_213]; decide +kernel
theorem zo_213_977 : zzOp 213 977 = some (.iadd, 1) := by unfold zzOp; rw [zm_213]; decide +kernel
theorem zo_213_978 : zzOp 213 978 = some (.iaload, 1) := by unfold zzOp; rw [zm_213]; decide +kernel
theorem zo_213_979 : zzOp 213 979 = some (.aload_n 0, 1) := by unfold zzOp; rw [zm_213]; decide +kernel
theorem zo_213_980 : zzOp 213 980 = some (.iload_n 3, 1) := by unfold zzOp; rw [zm_213]; decide +kernel
theorem zo_213_981 : zzOp 213 981 = some (.iconst 4, 1) := by unfold zzOp; rw [zm_213]; decide +kernel
theorem zo_213_982 : zzOp 213 982 = some (.iadd, 1) := by unfold zzOp; rw [zm_213]; decide +kernel
theorem zo_213_983 : zzOp 213 983 = some (.iaload, 1) := by unfold zzOp; rw [zm_213]; decide +kernel
theorem zo_213_984 : zzOp 213 984 = some (.invokevirtual 127, 3) := by unfold zzOp; rw [zm_213]; decide +kernel
theorem zo_213_987 : zzOp 213 987 = some (.if_icmp .eq 38, 3) := by unfold zzOp; rw [zm_213]; decide +kernel
theorem zo_213_990 : zzOp 213 990 = some (.iconst 0, 1) := by unfold zzOp; rw [zm_213]; decide +kernel
theorem zo_213_991 : zzOp 213 991 = some (.ireturn, 1) := by unfold zzOp; rw [zm_213]; decide +kernel
theorem zo_213_992 : zzOp 213 992 = some (.aload_n 1, 1) := by unfold zzOp; rw [zm_213]; decide +kernel
theorem zo_213_993 : zzOp 213 993 = some (.aload_n 0, 1) := by unfold zzOp; rw [zm_213]; decide +kernel
theorem zo_213_994 : zzOp 213 994 = some (.iload_n 3, 1) := by unfold zzOp; rw [zm_213]; decide +kernel
theorem zo_213_995 : zzOp 213 995 = some (.iconst 1, 1) := by unfold zzOp; rw [zm_213]; decide +kernel
theorem zo_213_996 : zzOp 213 996 = some (.iadd, 1) := by unfold zzOp; rw [zm_213]; decide +kernel
theorem zo_213_997 : zzOp 213 997 = some (.iaload, 1) := by unfold zzOp; rw [zm_213]; decide +kernel
theorem zo_213_998 : zzOp 213 998 = some (.aload_n 0, 1) := by unfold zzOp; rw [zm_213]; decide +kernel
theorem zo_213_999 : zzOp 213 999 = some (.iload_n 3, 1) := by unfold zzOp; rw [zm_213]; decide +kernel
theorem zo_213_1000 : zzOp 213 1000 = some (.iconst 2, 1) := by unfold zzOp; rw [zm_213]; decide +kernel
theorem zo_213_1001 : zzOp 213 1001 = some (.iadd, 1) := by unfold zzOp; rw [zm_213]; decide +kernel
theorem zo_213_1002 : zzOp 213 1002 = some (.iaload, 1) := by unfold zzOp; rw [zm_213]; decide +kernel
theorem zo_213_1003 : zzOp 213 1003 = some (.invokevirtual 128, 3) := by unfold zzOp; rw [zm_213]; decide +kernel
theorem zo_213_1006 : zzOp 213 1006 = some (.aload_n 2, 1) := by unfold zzOp; rw [zm_213]; decide +kernel
theorem zo_213_1007 : zzOp 213 1007 = some (.aload_n 0, 1) := by unfold zzOp; rw [zm_213]; decide +kernel
theorem zo_213_1008 : zzOp 213 1008 = some (.iload_n 3, 1) := by unfold zzOp; rw [zm_213]; decide +kernel
theorem zo_213_1009 : zzOp 213 1009 = some (.iconst 1, 1) := by unfold zzOp; rw [zm_213]; decide +kernel
theorem zo_213_1010 : zzOp 213 1010 = some (.iadd, 1) := by unfold zzOp; rw [zm_213]; decide +kernel
theorem zo_213_1011 : zzOp 213 1011 = some (.iaload, 1) := by unfold zzOp; rw [zm_213]; decide +kernel
theorem zo_213_1012 : zzOp 213 1012 = some (.aload_n 0, 1) := by unfold zzOp; rw [zm_213]; decide +kernel
theorem zo_213_1013 : zzOp 213 1013 = some (.iload_n 3, 1) := by unfold zzOp; rw [zm_213]; decide +kernel
theorem zo_213_1014 : zzOp 213 1014 = some (.iconst 2, 1) := by unfold zzOp; rw [zm_213]; decide +kernel
theorem zo_213_1015 : zzOp 213 1015 = some (.iadd, 1) := by unfold zzOp; rw [zm_213]; decide +kernel
theorem zo_213_1016 : zzOp 213 1016 = some (.iaload, 1) := by unfold zzOp; rw [zm_213]; decide +kernel
theorem zo_213_1017 : zzOp 213 1017 = some (.invokevirtual 131, 3) := by unfold zzOp; rw [zm_213]; decide +kernel
theorem zo_213_1020 : zzOp 213 1020 = some (.if_icmp .eq 5, 3) := by unfold zzOp; rw [zm_213]; decide +kernel
theorem zo_213_1023 : zzOp 213 1023 = some (.iconst 0, 1) := by unfold zzOp; rw [zm_213]; decide +kernel
theorem zo_213_1024 : zzOp 213 1024 = some (.ireturn, 1) := by unfold zzOp; rw [zm_213]; decide +kernel
theorem zo_213_1025 : zzOp 213 1025 = some (.iinc 3 6, 3) := by unfold zzOp; rw [zm_213]; decide +kernel
theorem zo_213_1028 : zzOp 213 1028 = some (.goto (-1010), 3) := by unfold zzOp; rw [zm_213]; decide +kernel
theorem zo_213_1031 : zzOp 213 1031 = some (.iconst 1, 1) := by unfold zzOp; rw [zm_213]; decide +kernel
theorem zo_213_1032 : zzOp 213 1032 = some (.ireturn, 1) := by unfold zzOp; rw [zm_213]; decide +kernel
theorem zl_213_13 : zzGet zzML (zzM 213).2.2.2.2.1 13 = some (2, 82) := by rw [zm_213]; decide +kernel
theorem zl_213_17 : zzGet zzML (zzM 213).2.2.2.2.1 17 = some (2, 143) := by rw [zm_213]; decide +kernel
theorem zl_213_18 : zzGet zzML (zzM 213).2.2.2.2.1 18 = some (2, 84) := by rw [zm_213]; decide +kernel
theorem zl_213_22 : zzGet zzML (zzM 213).2.2.2.2.1 22 = some (2, 145) := by rw [zm_213]; decide +kernel
theorem zl_213_23 : zzGet zzML (zzM 213).2.2.2.2.1 23 = some (2, 85) := by rw [zm_213]; decide +kernel
theorem zl_213_26 : zzGet zzML (zzM 213).2.2.2.2.1 26 = some (2, 147) := by rw [zm_213]; decide +kernel
theorem zl_213_27 : zzGet zzML (zzM 213).2.2.2.2.1 27 = some (2, 86) := by rw [zm_213]; decide +kernel
theorem zl_213_30 : zzGet zzML (zzM 213).2.2.2.2.1 30 = some (2, 148) := by rw [zm_213]; decide +kernel
theorem zl_213_31 : zzGet zzML (zzM 213).2.2.2.2.1 31 = some (2, 87) := by rw [zm_213]; decide +kernel
theorem zl_213_35 : zzGet zzML (zzM 213).2.2.2.2.1 35 = some (2, 149) := by rw [zm_213]; decide +kernel
theorem zl_213_36 : zzGet zzML (zzM 213).2.2.2.2.1 36 = some (2, 88) := by rw [zm_213]; decide +kernel
theorem zl_213_39 : zzGet zzML (zzM 213).2.2.2.2.1 39 = some (2, 150) := by rw [zm_213]; decide +kernel
theorem zl_213_40 : zzGet zzML (zzM 213).2.2.2.2.1 40 = some (2, 89) := by rw [zm_213]; decide +kernel
theorem zl_213_44 : zzGet zzML (zzM 213).2.2.2.2.1 44 = some (2, 167) := by rw [zm_213]; decide +kernel
theorem zl_213_45 : zzGet zzML (zzM 213).2.2.2.2.1 45 = some (2, 90) := by rw [zm_213]; decide +kernel
theorem zl_213_48 : zzGet zzML (zzM 213).2.2.2.2.1 48 = some (2, 168) := by rw [zm_213]; decide +kernel
theorem zl_213_49 : zzGet zzML (zzM 213).2.2.2.2.1 49 = some (2, 91) := by rw [zm_213]; decide +kernel
theorem zl_213_52 : zzGet zzML (zzM 213).2.2.2.2.1 52 = some (2, 180) := by rw [zm_213]; decide +kernel
theorem zl_213_53 : zzGet zzML (zzM 213).2.2.2.2.1 53 = some (2, 92) := by rw [zm_213]; decide +kernel
theorem zl_213_56 : zzGet zzML (zzM 213).2.2.2.2.1 56 = some (2, 182) := by rw [zm_213]; decide +kernel
theorem zl_213_57 : zzGet zzML (zzM 213).2.2.2.2.1 57 = some (2, 94) := by rw [zm_213]; decide +kernel
theorem zl_213_60 : zzGet zzML (zzM 213).2.2.2.2.1 60 = some (2, 183) := by rw [zm_213]; decide +kernel
theorem zl_213_61 : zzGet zzML (zzM 213).2.2.2.2.1 61 = some (2, 95) := by rw [zm_213]; decide +kernel
theorem zl_213_64 : zzGet zzML (zzM 213).2.2.2.2.1 64 = some (2, 186) := by rw [zm_213]; decide +kernel
theorem zl_213_65 : zzGet zzML (zzM 213).2.2.2.2.1 65 = some (2, 96) := by rw [zm_213]; decide +kernel
theorem zl_213_68 : zzGet zzML (zzM 213).2.2.2.2.1 68 = some (2, 188) := by rw [zm_213]; decide +kernel
theorem zl_213_69 : zzGet zzML (zzM 213).2.2.2.2.1 69 = some (2, 97) := by rw [zm_213]; decide +kernel
theorem zl_213_72 : zzGet zzML (zzM 213).2.2.2.2.1 72 = some (2, 193) := by rw [zm_213]; decide +kernel
theorem zl_213_73 : zzGet zzML (zzM 213).2.2.2.2.1 73 = some (2, 98) := by rw [zm_213]; decide +kernel
theorem zl_213_76 : zzGet zzML (zzM 213).2.2.2.2.1 76 = some (2, 194) := by rw [zm_213]; decide +kernel
theorem zl_213_77 : zzGet zzML (zzM 213).2.2.2.2.1 77 = some (2, 99) := by rw [zm_213]; decide +kernel
theorem zl_213_80 : zzGet zzML (zzM 213).2.2.2.2.1 80 = some (2, 195) := by rw [zm_213]; decide +kernel
theorem zl_213_81 : zzGet zzML (zzM 213).2.2.2.2.1 81 = some (2, 104) := by rw [zm_213]; decide +kernel
theorem zl_213_84 : zzGet zzML (zzM 213).2.2.2.2.1 84 = some (2, 198) := by rw [zm_213]; decide +kernel
theorem zl_213_85 : zzGet zzML (zzM 213).2.2.2.2.1 85 = some (2, 110) := by rw [zm_213]; decide +kernel
theorem zl_213_88 : zzGet zzML (zzM 213).2.2.2.2.1 88 = some (2, 199) := by rw [zm_213]; decide +kernel
theorem zl_213_89 : zzGet zzML (zzM 213).2.2.2.2.1 89 = some (2, 111) := by rw [zm_213]; decide +kernel
theorem zl_213_92 : zzGet zzML (zzM 213).2.2.2.2.1 92 = some (2, 201) := by rw [zm_213]; decide +kernel
theorem zl_213_93 : zzGet zzML (zzM 213).2.2.2.2.1 93 = some (2, 112) := by rw [zm_213]; decide +kernel
theorem zl_213_97 : zzGet zzML (zzM 213).2.2.2.2.1 97 = some (2, 202) := by rw [zm_213]; decide +kernel
theorem zl_213_98 : zzGet zzML (zzM 213).2.2.2.2.1 98 = some (2, 114) := by rw [zm_213]; decide +kernel
theorem zl_213_101 : zzGet zzML (zzM 213).2.2.2.2.1 101 = some (2, 203) := by rw [zm_213]; decide +kernel
theorem zl_213_102 : zzGet zzML (zzM 213).2.2.2.2.1 102 = some (2, 115) := by rw [zm_213]; decide +kernel
theorem zl_213_105 : zzGet zzML (zzM 213).2.2.2.2.1 105 = some (2, 204) := by rw [zm_213]; decide +kernel
theorem zl_213_106 : zzGet zzML (zzM 213).2.2.2.2.1 106 = some (2, 116) := by rw [zm_213]; decide +kernel
theorem zl_213_109 : zzGet zzML (zzM 213).2.2.2.2.1 109 = some (2, 205) := by rw [zm_213]; decide +kernel
theorem zl_213_110 : zzGet zzML (zzM 213).2.2.2.2.1 110 = some (2, 117) := by rw [zm_213]; decide +kernel
theorem zl_213_113 : zzGet zzML (zzM 213).2.2.2.2.1 113 = some (2, 207) := by rw [zm_213]; decide +kernel
theorem zl_213_114 : zzGet zzML (zzM 213).2.2.2.2.1 114 = some (2, 118) := by rw [zm_213]; decide +kernel
theorem zl_213_117 : zzGet zzML (zzM 213).2.2.2.2.1 117 = some (2, 208) := by rw [zm_213]; decide +kernel
theorem zl_213_118 : zzGet zzML (zzM 213).2.2.2.2.1 118 = some (2, 119) := by rw [zm_213]; decide +kernel
theorem zl_213_122 : zzGet zzML (zzM 213).2.2.2.2.1 122 = some (2, 209) := by rw [zm_213]; decide +kernel
theorem zl_213_123 : zzGet zzML (zzM 213).2.2.2.2.1 123 = some (2, 120) := by rw [zm_213]; decide +kernel
theorem zl_213_127 : zzGet zzML (zzM 213).2.2.2.2.1 127 = some (2, 210) := by rw [zm_213]; decide +kernel
theorem zl_213_128 : zzGet zzML (zzM 213).2.2.2.2.1 128 = some (2, 121) := by rw [zm_213]; decide +kernel
theorem zl_213_131 : zzGet zzML (zzM 213).2.2.2.2.1 131 = some (2, 212) := by rw [zm_213]; decide +kernel
