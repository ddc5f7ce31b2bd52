/-! what stands at each place (written by wip/whole/gen2.py) -/
theorem zm_153 : zzM 153 = (yX7_fail, cX7_fail, 1, none, 7, 1, 1, zzc_153) := rfl
theorem zr_153 : (zzM 153).2.2.2.1 = none := by rw [zm_153]
theorem zo_153_0 : zzOp 153 0 = some (.aload_n 0, 1) := by unfold zzOp; rw [zm_153]; decide +kernel
theorem zo_153_1 : zzOp 153 1 = some (.getfield 183, 3) := by unfold zzOp; rw [zm_153]; decide +kernel
theorem zo_153_4 : zzOp 153 4 = some (.ifCond .ne 16, 3) := by unfold zzOp; rw [zm_153]; decide +kernel
theorem zo_153_7 : zzOp 153 7 = some (.aload_n 0, 1) := by unfold zzOp; rw [zm_153]; decide +kernel
theorem zo_153_8 : zzOp 153 8 = some (.iconst 1, 1) := by unfold zzOp; rw [zm_153]; decide +kernel
theorem zo_153_9 : zzOp 153 9 = some (.putfield 183, 3) := by unfold zzOp; rw [zm_153]; decide +kernel
theorem zo_153_12 : zzOp 153 12 = some (.aload_n 0, 1) := by unfold zzOp; rw [zm_153]; decide +kernel
theorem zo_153_13 : zzOp 153 13 = some (.aload_n 0, 1) := by unfold zzOp; rw [zm_153]; decide +kernel
theorem zo_153_14 : zzOp 153 14 = some (.getfield 163, 3) := by unfold zzOp; rw [zm_153]; decide +kernel
theorem zo_153_17 : zzOp 153 17 = some (.putfield 187, 3) := by unfold zzOp; rw [zm_153]; decide +kernel
theorem zo_153_20 : zzOp 153 20 = some (.return_, 1) := by unfold zzOp; rw [zm_153]; decide +kernel
theorem zf_153_163 : zzGet zzFL (zzM 153).2.2.2.2.1 163 = some (7, 25) := by rw [zm_153]; decide +kernel
theorem zf_153_183 : zzGet zzFL (zzM 153).2.2.2.2.1 183 = some (7, 28) := by rw [zm_153]; decide +kernel
theorem zf_153_187 : zzGet zzFL (zzM 153).2.2.2.2.1 187 = some (7, 29) := by rw [zm_153]; decide +kernel
theorem zm_154 : zzM 154 = (yX7_isLetter, cX7_isLetter, 3, (some .boolean), 7, 3, 1, zzc_154) := rfl
theorem zr_154 : (zzM 154).2.2.2.1 = (some .boolean) := by rw [zm_154]
theorem zo_154_0 : zzOp 154 0 = some (.aload_n 0, 1) := by unfold zzOp; rw [zm_154]; decide +kernel
theorem zo_154_1 : zzOp 154 1 = some (.getfield 163, 3) := by unfold zzOp; rw [zm_154]; decide +kernel
theorem zo_154_4 : zzOp 154 4 = some (.iload_n 1, 1) := by unfold zzOp; rw [zm_154]; decide +kernel
theorem zo_154_5 : zzOp 154 5 = some (.iadd, 1) := by unfold zzOp; rw [zm_154]; decide +kernel
theorem zo_154_6 : zzOp 154 6 = some (.aload_n 0, 1) := by unfold zzOp; rw [zm_154]; decide +kernel
theorem zo_154_7 : zzOp 154 7 = some (.getfield 157, 3) := by unfold zzOp; rw [zm_154]; decide +kernel
theorem zo_154_10 : zzOp 154 10 = some (.if_icmp .ge 25, 3) := by unfold zzOp; rw [zm_154]; decide +kernel
theorem zo_154_13 : zzOp 154 13 = some (.aload_n 0, 1) := by unfold zzOp; rw [zm_154]; decide +kernel
theorem zo_154_14 : zzOp 154 14 = some (.aload_n 0, 1) := by unfold zzOp; rw [zm_154]; decide +kernel
theorem zo_154_15 : zzOp 154 15 = some (.getfield 163, 3) := by unfold zzOp; rw [zm_154]; decide +kernel
theorem zo_154_18 : zzOp 154 18 = some (.iload_n 1, 1) := by unfold zzOp; rw [zm_154]; decide +kernel
theorem zo_154_19 : zzOp 154 19 = some (.iadd, 1) := by unfold zzOp; rw [zm_154]; decide +kernel
theorem zo_154_20 : zzOp 154 20 = some (.invokevirtual 160, 3) := by unfold zzOp; rw [zm_154]; decide +kernel
theorem zo_154_23 : zzOp 154 23 = some (.iload_n 2, 1) := by unfold zzOp; rw [zm_154]; decide +kernel
theorem zo_154_24 : zzOp 154 24 = some (.if_icmp .ne 7, 3) := by unfold zzOp; rw [zm_154]; decide +kernel
theorem zo_154_27 : zzOp 154 27 = some (.iconst 1, 1) := by unfold zzOp; rw [zm_154]; decide +kernel
theorem zo_154_28 : zzOp 154 28 = some (.goto 16, 3) := by unfold zzOp; rw [zm_154]; decide +kernel
theorem zo_154_31 : zzOp 154 31 = some (.iconst 0, 1) := by unfold zzOp; rw [zm_154]; decide +kernel
theorem zo_154_32 : zzOp 154 32 = some (.goto 12, 3) := by unfold zzOp; rw [zm_154]; decide +kernel
theorem zo_154_35 : zzOp 154 35 = some (.iload_n 2, 1) := by unfold zzOp; rw [zm_154]; decide +kernel
theorem zo_154_36 : zzOp 154 36 = some (.ifCond .ne 7, 3) := by unfold zzOp; rw [zm_154]; decide +kernel
theorem zo_154_39 : zzOp 154 39 = some (.iconst 1, 1) := by unfold zzOp; rw [zm_154]; decide +kernel
theorem zo_154_40 : zzOp 154 40 = some (.goto 4, 3) := by unfold zzOp; rw [zm_154]; decide +kernel
theorem zo_154_43 : zzOp 154 43 = some (.iconst 0, 1) := by unfold zzOp; rw [zm_154]; decide +kernel
theorem zo_154_44 : zzOp 154 44 = some (.ireturn, 1) := by unfold zzOp; rw [zm_154]; decide +kernel
theorem zf_154_157 : zzGet zzFL (zzM 154).2.2.2.2.1 157 = some (7, 23) := by rw [zm_154]; decide +kernel
theorem zf_154_163 : zzGet zzFL (zzM 154).2.2.2.2.1 163 = some (7, 25) := by rw [zm_154]; decide +kernel
theorem zl_154_160 : zzGet zzML (zzM 154).2.2.2.2.1 160 = some (2, 151) := by rw [zm_154]; decide +kernel
theorem zm_155 : zzM 155 = (yX7_isWord, cX7_isWord, 9, (some .boolean), 7, 9, 1, zzc_155) := rfl
theorem zr_155 : (zzM 155).2.2.2.1 = (some .boolean) := by rw [zm_155]
theorem zo_155_0 : zzOp 155 0 = some (.aload_n 0, 1) := by unfold zzOp; rw [zm_155]; decide +kernel
theorem zo_155_1 : zzOp 155 1 = some (.getfield 183, 3) := by unfold zzOp; rw [zm_155]; decide +kernel
theorem zo_155_4 : zzOp 155 4 = some (.ifCond .ne 108, 3) := by unfold zzOp; rw [zm_155]; decide +kernel
theorem zo_155_7 : zzOp 155 7 = some (.aload_n 0, 1) := by unfold zzOp; rw [zm_155]; decide +kernel
theorem zo_155_8 : zzOp 155 8 = some (.getfield 166, 3) := by unfold zzOp; rw [zm_155]; decide +kernel
theorem zo_155_11 : zzOp 155 11 = some (.iconst 1, 1) := by unfold zzOp; rw [zm_155]; decide +kernel
theorem zo_155_12 : zzOp 155 12 = some (.if_icmp .ne 100, 3) := by unfold zzOp; rw [zm_155]; decide +kernel
theorem zo_155_15 : zzOp 155 15 = some (.aload_n 0, 1) := by unfold zzOp; rw [zm_155]; decide +kernel
theorem zo_155_16 : zzOp 155 16 = some (.getfield 157, 3) := by unfold zzOp; rw [zm_155]; decide +kernel
theorem zo_155_19 : zzOp 155 19 = some (.aload_n 0, 1) := by unfold zzOp; rw [zm_155]; decide +kernel
theorem zo_155_20 : zzOp 155 20 = some (.getfield 163, 3) := by unfold zzOp; rw [zm_155]; decide +kernel
theorem zo_155_23 : zzOp 155 23 = some (.bipush 8, 2) := by unfold zzOp; rw [zm_155]; decide +kernel
theorem zo_155_25 : zzOp 155 25 = some (.iadd, 1) := by unfold zzOp; rw [zm_155]; decide +kernel
theorem zo_155_26 : zzOp 155 26 = some (.if_icmp .gt 86, 3) := by unfold zzOp; rw [zm_155]; decide +kernel
theorem zo_155_29 : zzOp 155 29 = some (.aload_n 0, 1) := by unfold zzOp; rw [zm_155]; decide +kernel
theorem zo_155_30 : zzOp 155 30 = some (.iconst 0, 1) := by unfold zzOp; rw [zm_155]; decide +kernel
theorem zo_155_31 : zzOp 155 31 = some (.iload_n 1, 1) := by unfold zzOp; rw [zm_155]; decide +kernel
theorem zo_155_32 : zzOp 155 32 = some (.invokevirtual 190, 3) := by unfold zzOp; rw [zm_155]; decide +kernel
theorem zo_155_35 : zzOp 155 35 = some (.ifCond .eq 77, 3) := by unfold zzOp; rw [zm_155]; decide +kernel
theorem zo_155_38 : zzOp 155 38 = some (.aload_n 0, 1) := by unfold zzOp; rw [zm_155]; decide +kernel
theorem zo_155_39 : zzOp 155 39 = some (.iconst 1, 1) := by unfold zzOp; rw [zm_155]; decide +kernel
theorem zo_155_40 : zzOp 155 40 = some (.iload_n 2, 1) := by unfold zzOp; rw [zm_155]; decide +kernel
theorem zo_155_41 : zzOp 155 41 = some (.invokevirtual 190, 3) := by unfold zzOp; rw [zm_155]; decide +kernel
theorem zo_155_44 : zzOp 155 44 = some (.ifCond .eq 68, 3) := by unfold zzOp; rw [zm_155]; decide +kernel
theorem zo_155_47 : zzOp 155 47 = some (.aload_n 0, 1) := by unfold zzOp; rw [zm_155]; decide +kernel
theorem zo_155_48 : zzOp 155 48 = some (.iconst 2, 1) := by unfold zzOp; rw [zm_155]; decide +kernel
theorem zo_155_49 : zzOp 155 49 = some (.iload_n 3, 1) := by unfold zzOp; rw [zm_155]; decide +kernel
theorem zo_155_50 : zzOp 155 50 = some (.invokevirtual 190, 3) := by unfold zzOp; rw [zm_155]; decide +kernel
theorem zo_155_53 : zzOp 155 53 = some (.ifCond .eq 59, 3) := by unfold zzOp; rw [zm_155]; decide +kernel
theorem zo_155_56 : zzOp 155 56 = some (.aload_n 0, 1) := by unfold zzOp; rw [zm_155]; decide +kernel
theorem zo_155_57 : zzOp 155 57 = some (.iconst 3, 1) := by unfold zzOp; rw [zm_155]; decide +kernel
theorem zo_155_58 : zzOp 155 58 = some (.iload 4, 2) := by unfold zzOp; rw [zm_155]; decide +kernel
theorem zo_155_60 : zzOp 155 60 = some (.invokevirtual 190, 3) := by unfold zzOp; rw [zm_155]; decide +kernel
theorem zo_155_63 : zzOp 155 63 = some (.ifCond .eq 49, 3) := by unfold zzOp; rw [zm_155]; decide +kernel
theorem zo_155_66 : zzOp 155 66 = some (.aload_n 0, 1) := by unfold zzOp; rw [zm_155]; decide +kernel
theorem zo_155_67 : zzOp 155 67 = some (.iconst 4, 1) := by unfold zzOp; rw [zm_155]; decide +kernel
theorem zo_155_68 : zzOp 155 68 = some (.iload 5, 2) := by unfold zzOp; rw [zm_155]; decide +kernel
theorem zo_155_70 : zzOp 155 70 = some (.invokevirtual 190, 3) := by unfold zzOp; rw [zm_155]; decide +kernel
theorem zo_155_73 : zzOp 155 73 = some (.ifCond .eq 39, 3) := by unfold zzOp; rw [zm_155]; decide +kernel
theorem zo_155_76 : zzOp 155 76 = some (.aload_n 0, 1) := by unfold zzOp; rw [zm_155]; decide +kernel
theorem zo_155_77 : zzOp 155 77 = some (.iconst 5, 1) := by unfold zzOp; rw [zm_155]; decide +kernel
theorem zo_155_78 : zzOp 155 78 = some (.iload 6, 2) := by unfold zzOp; rw [zm_155]; decide +kernel
theorem zo_155_80 : zzOp 155 80 = some (.invokevirtual 190, 3) := by unfold zzOp; rw [zm_155]; decide +kernel
theorem zo_155_83 : zzOp 155 83 = some (.ifCond .eq 29, 3) := by unfold zzOp; rw [zm_155]; decide +kernel
theorem zo_155_86 : zzOp 155 86 = some (.aload_n 0, 1) := by unfold zzOp; rw [zm_155]; decide +kernel
theorem zo_155_87 : zzOp 155 87 = some (.bipush 6, 2) := by unfold zzOp; rw [zm_155]; decide +kernel
theorem zo_155_89 : zzOp 155 89 = some (.iload 7, 2) := by unfold zzOp; rw [zm_155]; decide +kernel
theorem zo_155_91 : zzOp 155 91 = some (.invokevirtual 190, 3) := by unfold zzOp; rw [zm_155]; decide +kernel
theorem zo_155_94 : zzOp 155 94 = some (.ifCond .eq 18, 3) := by unfold zzOp; rw [zm_155]; decide +kernel
theorem zo_155_97 : zzOp 155 97 = some (.aload_n 0, 1) := by unfold zzOp; rw [zm_155]; decide +kernel
theorem zo_155_98 : zzOp 155 98 = some (.bipush 7, 2) := by unfold zzOp; rw [zm_155]; decide +kernel
theorem zo_155_100 : zzOp 155 100 = some (.iload 8, 2) := by unfold zzOp; rw [zm_155]; decide +kernel
theorem zo_155_102 : zzOp 155 102 = some (.invokevirtual 190, 3) := by unfold zzOp; rw [zm_155]; decide +kernel
theorem zo_155_105 : zzOp 155 105 = some (.ifCond .eq 7, 3) := by unfold zzOp; rw [zm_155]; decide +kernel
theorem zo_155_108 : zzOp 155 108 = some (.iconst 1, 1) := by unfold zzOp; rw [zm_155]; decide +kernel
theorem zo_155_109 : zzOp 155 109 = some (.goto 4, 3) := by unfold zzOp; rw [zm_155]; decide +kernel
theorem zo_155_112 : zzOp 155 112 = some (.iconst 0, 1) := by unfold zzOp; rw [zm_155]; decide +kernel
theorem zo_155_113 : zzOp 155 113 = some (.ireturn, 1) := by unfold zzOp; rw [zm_155]; decide +kernel
theorem zf_155_157 : zzGet zzFL (zzM 155).2.2.2.2.1 157 = some (7, 23) := by rw [zm_155]; decide +kernel
theorem zf_155_163 : zzGet zzFL (zzM 155).2.2.2.2.1 163 = some (7, 25) := by rw [zm_155]; decide +kernel
theorem zf_155_166 : zzGet zzFL (zzM 155).2.2.2.2.1 166 = some (7, 24) := by rw [zm_155]; decide +kernel
theorem zf_155_183 : zzGet zzFL (zzM 155).2.2.2.2.1 183 = some (7, 28) := by rw [zm_155]; decide +kernel
theorem zl_155_190 : zzGet zzML (zzM 155).2.2.2.2.1 190 = some (2, 154) := by rw [zm_155]; decide +kernel
theorem zm_156 : zzM 156 = (yX7_isSign, cX7_isSign, 2, (some .boolean), 7, 2, 1, zzc_156) := rfl
theorem zr_156 : (zzM 156).2.2.2.1 = (some .boolean) := by rw [zm_156]
theorem zo_156_0 : zzOp 156 0 = some (.aload_n 0, 1) := by unfold zzOp; rw [zm_156]; decide +kernel
theorem zo_156_1 : zzOp 156 1 = some (.getfield 183, 3) := by unfold zzOp; rw [zm_156]; decide +kernel
theorem zo_156_4 : zzOp 156 4 = some (.ifCond .ne 25, 3) := by unfold zzOp; rw [zm_156]; decide +kernel
theorem zo_156_7 : zzOp 156 7 = some (.aload_n 0, 1) := by unfold zzOp; rw [zm_156]; decide +kernel
theorem zo_156_8 : zzOp 156 8 = some (.getfield 166, 3) := by unfold zzOp; rw [zm_156]; decide +kernel
theorem zo_156_11 : zzOp 156 11 = some (.iconst 3, 1) := by unfold zzOp; rw [zm_156]; decide +kernel
theorem zo_156_12 : zzOp 156 12 = some (.if_icmp .ne 17, 3) := by unfold zzOp; rw [zm_156]; decide +kernel
theorem zo_156_15 : zzOp 156 15 = some (.aload_n 0, 1) := by unfold zzOp; rw [zm_156]; decide +kernel
theorem zo_156_16 : zzOp 156 16 = some (.getfield 177, 3) := by unfold zzOp; rw [zm_156]; decide +kernel
theorem zo_156_19 : zzOp 156 19 = some (.iload_n 1, 1) := by unfold zzOp; rw [zm_156]; decide +kernel
theorem zo_156_20 : zzOp 156 20 = some (.i2l, 1) := by unfold zzOp; rw [zm_156]; decide +kernel
theorem zo_156_21 : zzOp 156 21 = some (.lcmp, 1) := by unfold zzOp; rw [zm_156]; decide +kernel
theorem zo_156_22 : zzOp 156 22 = some (.ifCond .ne 7, 3) := by unfold zzOp; rw [zm_156]; decide +kernel
theorem zo_156_25 : zzOp 156 25 = some (.iconst 1, 1) := by unfold zzOp; rw [zm_156]; decide +kernel
theorem zo_156_26 : zzOp 156 26 = some (.goto 4, 3) := by unfold zzOp; rw [zm_156]; decide +kernel
theorem zo_156_29 : zzOp 156 29 = some (.iconst 0, 1) := by unfold zzOp; rw [zm_156]; decide +kernel
theorem zo_156_30 : zzOp 156 30 = some (.ireturn, 1) := by unfold zzOp; rw [zm_156]; decide +kernel
theorem zf_156_166 : zzGet zzFL (zzM 156).2.2.2.2.1 166 = some (7, 24) := by rw [zm_156]; decide +kernel
theorem zf_156_177 : zzGet zzFL (zzM 156).2.2.2.2.1 177 = some (7, 26) := by rw [zm_156]; decide +kernel
theorem zf_156_183 : zzGet zzFL (zzM 156).2.2.2.2.1 183 = some (7, 28) := by rw [zm_156]; decide +kernel
theorem zm_157 : zzM 157 = (yX7_opens, cX7_opens, 1, (some .boolean), 7, 1, 1, zzc_157) := rfl
theorem zr_157 : (zzM 157).2.2.2.1 = (some .boolean) := by rw [zm_157]
theorem zo_157_0 : zzOp 157 0 = some (.aload_n 0, 1) := by unfold zzOp; rw [zm_157]; decide +kernel
theorem zo_157_1 : zzOp 157 1 = some (.getfield 194, 3) := by unfold zzOp; rw [zm_157]; decide +kernel
theorem zo_157_4 : zzOp 157 4 = some (.iconst 5, 1) := by unfold zzOp; rw [zm_157]; decide +kernel
theorem zo_157_5 : zzOp 157 5 = some (.if_icmp .ne 9, 3) := by unfold zzOp; rw [zm_157]; decide +kernel
theorem zo_157_8 : zzOp 157 8 = some (.aload_n 0, 1) := by unfold zzOp; rw [zm_157]; decide +kernel
theorem zo_157_9 : zzOp 157 9 = some (.invokevirtual 197, 3) := by unfold zzOp; rw [zm_157]; decide +kernel
theorem zo_157_12 : zzOp 157 12 = some (.iconst 0, 1) := by unfold zzOp; rw [zm_157]; decide +kernel
theorem zo_157_13 : zzOp 157 13 = some (.ireturn, 1) := by unfold zzOp; rw [zm_157]; decide +kernel
theorem zo_157_14 : zzOp 157 14 = some (.aload_n 0, 1) := by unfold zzOp; rw [zm_157]; decide +kernel
theorem zo_157_15 : zzOp 157 15 = some (.dup, 1) := by unfold zzOp; rw [zm_157]; decide +kernel
theorem zo_157_16 : zzOp 157 16 = some (.getfield 194, 3) := by unfold zzOp; rw [zm_157]; decide +kernel
theorem zo_157_19 : zzOp 157 19 = some (.iconst 1, 1) := by unfold zzOp; rw [zm_157]; decide +kernel
theorem zo_157_20 : zzOp 157 20 = some (.iadd, 1) := by unfold zzOp; rw [zm_157]; decide +kernel
theorem zo_157_21 : zzOp 157 21 = some (.putfield 194, 3) := by unfold zzOp; rw [zm_157]; decide +kernel
theorem zo_157_24 : zzOp 157 24 = some (.aload_n 0, 1) := by unfold zzOp; rw [zm_157]; decide +kernel
theorem zo_157_25 : zzOp 157 25 = some (.invokevirtual 200, 3) := by unfold zzOp; rw [zm_157]; decide +kernel
theorem zo_157_28 : zzOp 157 28 = some (.iconst 1, 1) := by unfold zzOp; rw [zm_157]; decide +kernel
theorem zo_157_29 : zzOp 157 29 = some (.ireturn, 1) := by unfold zzOp; rw [zm_157]; decide +kernel
theorem zf_157_194 : zzGet zzFL (zzM 157).2.2.2.2.1 194 = some (7, 27) := by rw [zm_157]; decide +kernel
theorem zl_157_197 : zzGet zzML (zzM 157).2.2.2.2.1 197 = some (2, 153) := by rw [zm_157]; decide +kernel
theorem zl_157_200 : zzGet zzML (zzM 157).2.2.2.2.1 200 = some (2, 152) := by rw [zm_157]; decide +kernel
theorem zm_158 : zzM 158 = (yX7_name, cX7_name, 1, (some .int), 7, 1, 1, zzc_158) := rfl
theorem zr_158 : (zzM 158).2.2.2.1 = (some .int) := by rw [zm_158]
theorem zo_158_0 : zzOp 158 0 = some (.aload_n 0, 1) := by unfold zzOp; rw [zm_158]; decide +kernel
theorem zo_158_1 : zzOp 158 1 = some (.bipush 114, 2) := by unfold zzOp; rw [zm_158]; decide +kernel
theorem zo_158_3 : zzOp 158 3 = some (.bipush 111, 2) := by unfold zzOp; rw [zm_158]; decide +kernel
theorem zo_158_5 : zzOp 158 5 = some (.bipush 119, 2) := by unfold zzOp; rw [zm_158]; decide +kernel
theorem zo_158_7 : zzOp 158 7 = some (.iconst 0, 1) := by unfold zzOp; rw [zm_158]; decide +kernel
theorem zo_158_8 : zzOp 158 8 = some (.iconst 0, 1) := by unfold zzOp; rw [zm_158]; decide +kernel
theorem zo_158_9 : zzOp 158 9 = some (.iconst 0, 1) := by unfold zzOp; rw [zm_158]; decide +kernel
theorem zo_158_10 : zzOp 158 10 = some (.iconst 0, 1) := by unfold zzOp; rw [zm_158]; decide +kernel
theorem zo_158_11 : zzOp 158 11 = some (.iconst 0, 1) := by unfold zzOp; rw [zm_158]; decide +kernel
theorem zo_158_12 : zzOp 158 12 = some (.invokevirtual 203, 3) := by unfold zzOp; rw [zm_158]; decide +kernel
theorem zo_158_15 : zzOp 158 15 = some (.ifCond .eq 8, 3) := by unfold zzOp; rw [zm_158]; decide +kernel
theorem zo_158_18 : zzOp 158 18 = some (.aload_n 0, 1) := by unfold zzOp; rw [zm_158]; decide +kernel
theorem zo_158_19 : zzOp 158 19 = some (.getfield 207, 3) := by unfold zzOp; rw [zm_158]; decide +kernel
theorem zo_158_22 : zzOp 158 22 = some (.ireturn, 1) := by unfold zzOp; rw [zm_158]; decide +kernel
theorem zo_158_23 : zzOp 158 23 = some (.aload_n 0, 1) := by unfold zzOp; rw [zm_158]; decide +kernel
theorem zo_158_24 : zzOp 158 24 = some (.bipush 99, 2) := by unfold zzOp; rw [zm_158]; decide +kernel
theorem zo_158_26 : zzOp 158 26 = some (.bipush 111, 2) := by unfold zzOp; rw [zm_158]; decide +kernel
theorem zo_158_28 : zzOp 158 28 = some (.bipush 108, 2) := by unfold zzOp; rw [zm_158]; decide +kernel
theorem zo_158_30 : zzOp 158 30 = some (.bipush 117, 2) := by unfold zzOp; rw [zm_158]; decide +kernel
theorem zo_158_32 : zzOp 158 32 = some (.bipush 109, 2) := by unfold zzOp; rw [zm_158]; decide +kernel
theorem zo_158_34 : zzOp 158 34 = some (.bipush 110, 2) := by unfold zzOp; rw [zm_158]; decide +kernel
theorem zo_158_36 : zzOp 158 36 = some (.iconst 0, 1) := by unfold zzOp; rw [zm_158]; decide +kernel
theorem zo_158_37 : zzOp 158 37 = some (.iconst 0, 1) := by unfold zzOp; rw [zm_158]; decide +kernel
theorem zo_158_38 : zzOp 158 38 = some (.invokevirtual 203, 3) := by unfold zzOp; rw [zm_158]; decide +kernel
theorem zo_158_41 : zzOp 158 41 = some (.ifCond .eq 8, 3) := by unfold zzOp; rw [zm_158]; decide +kernel
theorem zo_158_44 : zzOp 158 44 = some (.aload_n 0, 1) := by unfold zzOp; rw [zm_158]; decide +kernel
theorem zo_158_45 : zzOp 158 45 = some (.getfield 210, 3) := by unfold zzOp; rw [zm_158]; decide +kernel
theorem zo_158_48 : zzOp 158 48 = some (.ireturn, 1) := by unfold zzOp; rw [zm_158]; decide +kernel
theorem zo_158_49 : zzOp 158 49 = some (.aload_n 0, 1) := by unfold zzOp; rw [zm_158]; decide +kernel
theorem zo_158_50 : zzOp 158 50 = some (.bipush 109, 2) := by unfold zzOp; rw [zm_158]; decide +kernel
theorem zo_158_52 : zzOp 158 52 = some (.bipush 105, 2) := by unfold zzOp; rw [zm_158]; decide +kernel
theorem zo_158_54 : zzOp 158 54 = some (.bipush 108, 2) := by unfold zzOp; rw [zm_158]; decide +kernel
theorem zo_158_56 : zzOp 158 56 = some (.bipush 101, 2) := by unfold zzOp; rw [zm_158]; decide +kernel
theorem zo_158_58 : zzOp 158 58 = some (.iconst 0, 1) := by unfold zzOp; rw [zm_158]; decide +kernel
theorem zo_158_59 : zzOp 158 59 = some (.iconst 0, 1) := by unfold zzOp; rw [zm_158]; decide +kernel
theorem zo_158_60 : zzOp 158 60 = some (.iconst 0, 1) := by unfold zzOp; rw [zm_158]; decide +kernel
theorem zo_158_61 : zzOp 158 61 = some (.iconst 0, 1) := by unfold zzOp; rw [zm_158]; decide +kernel
theorem zo_158_62 : zzOp 158 62 = some (.invokevirtual 203, 3) := by unfold zzOp; rw [zm_158]; decide +kernel
theorem zo_158_65 : zzOp 158 65 = some (.ifCond .eq 8, 3) := by unfold zzOp; rw [zm_158]; decide +kernel
theorem zo_158_68 : zzOp 158 68 = some (.aload_n 0, 1) := by unfold zzOp; rw [zm_158]; decide +kernel
theorem zo_158_69 : zzOp 158 69 = some (.getfield 213, 3) := by unfold zzOp; rw [zm_158]; decide +kernel
theorem zo_158_72 : zzOp 158 72 = some (.ireturn, 1) := by unfold zzOp; rw [zm_158]; decide +kernel
theorem zo_158_73 : zzOp 158 73 = some (.aload_n 0, 1) := by unfold zzOp; rw [zm_158]; decide +kernel
theorem zo_158_74 : zzOp 158 74 = some (.bipush 110, 2) := by unfold zzOp; rw [zm_158]; decide +kernel
theorem zo_158_76 : zzOp 158 76 = some (.bipush 117, 2) := by unfold zzOp; rw [zm_158]; decide +kernel
theorem zo_158_78 : zzOp 158 78 = some (.bipush 109, 2) := by unfold zzOp; rw [zm_158]; decide +kernel
theorem zo_158_80 : zzOp 158 80 = some (.bipush 98, 2) := by unfold zzOp; rw [zm_158]; decide +kernel
theorem zo_158_82 : zzOp 158 82 = some (.bipush 101, 2) := by unfold zzOp; rw [zm_158]; decide +kernel
theorem zo_158_84 : zzOp 158 84 = some (.bipush 114, 2) := by unfold zzOp; rw [zm_158]; decide +kernel
theorem zo_158_86 : zzOp 158 86 = some (.iconst 0, 1) := by unfold zzOp; rw [zm_158]; decide +kernel
theorem zo_158_87 : zzOp 158 87 = some (.iconst 0, 1) := by unfold zzOp; rw [zm_158]; decide +kernel
theorem zo_158_88 : zzOp 158 88 = some (.invokevirtual 203, 3) := by unfold zzOp; rw [zm_158]; decide +kernel
theorem zo_158_91 : zzOp 158 91 = some (.ifCond .eq 8, 3) := by unfold zzOp; rw [zm_158]; decide +kernel
theorem zo_158_94 : zzOp 158 94 = some (.aload_n 0, 1) := by unfold zzOp; rw [zm_158]; decide +kernel
theorem zo_158_95 : zzOp 158 95 = some (.getfield 216, 3) := by unfold zzOp; rw [zm_158]; decide +kernel
theorem zo_158_98 : zzOp 158 98 = some (.ireturn, 1) := by unfold zzOp; rw [zm_158]; decide +kernel
theorem zo_158_99 : zzOp 158 99 = some (.aload_n 0, 1) := by unfold zzOp; rw [zm_158]; decide +kernel
theorem zo_158_100 : zzOp 158 100 = some (.bipush 98, 2) := by unfold zzOp; rw [zm_158]; decide +kernel
theorem zo_158_102 : zzOp 158 102 = some (.bipush 101, 2) := by unfold zzOp; rw [zm_158]; decide +kernel
theorem zo_158_104 : zzOp 158 104 = some (.bipush 115, 2) := by unfold zzOp; rw [zm_158]; decide +kernel
theorem zo_158_106 : zzOp 158 106 = some (.bipush 105, 2) := by unfold zzOp; rw [zm_158]; decide +kernel
theorem zo_158_108 : zzOp 158 108 = some (.bipush 100, 2) := by unfold zzOp; rw [zm_158]; decide +kernel
theorem zo_158_110 : zzOp 158 110 = some (.bipush 101, 2) := by unfold zzOp; rw [zm_158]; decide +kernel
theorem zo_158_112 : zzOp 158 112 = some (.iconst 0, 1) := by unfold zzOp; rw [zm_158]; decide +kernel
theorem zo_158_113 : zzOp 158 113 = some (.iconst 0, 1) := by unfold zzOp; rw [zm_158]; decide +kernel
theorem zo_158_114 : zzOp 158 114 = some (.invokevirtual 203, 3) := by unfold zzOp; rw [zm_158]; decide +kernel
theorem zo_158_117 : zzOp 158 117 = some (.ifCond .eq 8, 3) := by unfold zzOp; rw [zm_158]; decide +kernel
theorem zo_158_120 : zzOp 158 120 = some (.aload_n 0, 1) := by unfold zzOp; rw [zm_158]; decide +kernel
theorem zo_158_121 : zzOp 158 121 = some (.getfield 219, 3) := by unfold zzOp; rw [zm_158]; decide +kernel
theorem zo_158_124 : zzOp 158 124 = some (.ireturn, 1) := by unfold zzOp; rw [zm_158]; decide +kernel
theorem zo_158_125 : zzOp 158 125 = some (.aload_n 0, 1) := by unfold zzOp; rw [zm_158]; decide +kernel
theorem zo_158_126 : zzOp 158 126 = some (.bipush 102, 2) := by unfold zzOp; rw [zm_158]; decide +kernel
theorem zo_158_128 : zzOp 158 128 = some (.bipush 114, 2) := by unfold zzOp; rw [zm_158]; decide +kernel
theorem zo_158_130 : zzOp 158 130 = some (.bipush 105, 2) := by unfold zzOp; rw [zm_158]; decide +kernel
theorem zo_158_132 : zzOp 158 132 = some (.bipush 101, 2) := by unfold zzOp; rw [zm_158]; decide +kernel
theorem zo_158_134 : zzOp 158 134 = some (.bipush 110, 2) := by unfold zzOp; rw [zm_158]; decide +kernel
theorem zo_158_136 : zzOp 158 136 = some (.bipush 100, 2) := by unfold zzOp; rw [zm_158]; decide +kernel
theorem zo_158_138 : zzOp 158 138 = some (.iconst 0, 1) := by unfold zzOp; rw [zm_158]; decide +kernel
theorem zo_158_139 : zzOp 158 139 = some (.iconst 0, 1) := by unfold zzOp; rw [zm_158]; decide +kernel
theorem zo_158_140 : zzOp 158 140 = some (.invokevirtual 203, 3) := by unfold zzOp; rw [zm_158]; decide +kernel
theorem zo_158_143 : zzOp 158 143 = some (.ifCond .eq 8, 3) := by unfold zzOp; rw [zm_158]; decide +kernel
theorem zo_158_146 : zzOp 158 146 = some (.aload_n 0, 1) := by unfold zzOp; rw [zm_158]; decide +kernel
theorem zo_158_147 : zzOp 158 147 = some (.getfield 222, 3) := by unfold zzOp; rw [zm_158]; decide +kernel
theorem zo_158_150 : zzOp 158 150 = some (.ireturn, 1) := by unfold zzOp; rw [zm_158]; decide +kernel
theorem zo_158_151 : zzOp 158 151 = some (.aload_n 0, 1) := by unfold zzOp; rw [zm_158]; decide +kernel
theorem zo_158_152 : zzOp 158 152 = some (.invokevirtual 197, 3) := by unfold zzOp; rw [zm_158]; decide +kernel
theorem zo_158_155 : zzOp 158 155 = some (.iconst 0, 1) := by unfold zzOp; rw [zm_158]; decide +kernel
theorem zo_158_156 : zzOp 158 156 = some (.ireturn, 1) := by unfold zzOp; rw [zm_158]; decide +kernel
theorem zf_158_207 : zzGet zzFL (zzM 158).2.2.2.2.1 207 = some (7, 15) := by rw [zm_158]; decide +kernel
theorem zf_158_210 : zzGet zzFL (zzM 158).2.2.2.2.1 210 = some (7, 16) := by rw [zm_158]; decide +kernel
theorem zf_158_213 : zzGet zzFL (zzM 158).2.2.2.2.1 213 = some (7, 17) := by rw [zm_158]; decide +kernel
theorem zf_158_216 : zzGet zzFL (zzM 158).2.2.2.2.1 216 = some (7, 18) := by rw [zm_158]; decide +kernel
theorem zf_158_219 : zzGet zzFL (zzM 158).2.2.2.2.1 219 = some (7, 19) := by rw [zm_158]; decide +kernel
theorem zf_158_222 : zzGet zzFL (zzM 158).2.2.2.2.1 222 = some (7, 20) := by rw [zm_158]; decide +kernel
theorem zl_158_197 : zzGet zzML (zzM 158).2.2.2.2.1 197 = some (2, 153) := by rw [zm_158]; decide +kernel
theorem zl_158_203 : zzGet zzML (zzM 158).2.2.2.2.1 203 = some (2, 155) := by rw [zm_158]; decide +kernel
theorem zm_159 : zzM 159 = (yX7_atom, cX7_atom, 2, (some .int), 7, 1, 1, zzc_159) := rfl
theorem zr_159 : (zzM 159).2.2.2.1 = (some .int) := by rw [zm_159]
theorem zo_159_0 : zzOp 159 0 = some (.iconst 0, 1) := by unfold zzOp; rw [zm_159]; decide +kernel
theorem zo_159_1 : zzOp 159 1 = some (.istore_n 1, 1) := by unfold zzOp; rw [zm_159]; decide +kernel
theorem zo_159_2 : zzOp 159 2 = some (.aload_n 0, 1) := by unfold zzOp; rw [zm_159]; decide +kernel
theorem zo_159_3 : zzOp 159 3 = some (.bipush 45, 2) := by unfold zzOp; rw [zm_159]; decide +kernel
theorem zo_159_5 : zzOp 159 5 = some (.invokevirtual 225, 3) := by unfold zzOp; rw [zm_159]; decide +kernel
theorem zo_159_8 : zzOp 159 8 = some (.ifCond .eq 29, 3) := by unfold zzOp; rw [zm_159]; decide +kernel
theorem zo_159_11 : zzOp 159 11 = some (.aload_n 0, 1) := by unfold zzOp; rw [zm_159]; decide +kernel
theorem zo_159_12 : zzOp 159 12 = some (.invokevirtual 228, 3) := by unfold zzOp; rw [zm_159]; decide +kernel
theorem zo_159_15 : zzOp 159 15 = some (.ifCond .eq 146, 3) := by unfold zzOp; rw [zm_159]; decide +kernel
theorem zo_159_18 : zzOp 159 18 = some (.aload_n 0, 1) := by unfold zzOp; rw [zm_159]; decide +kernel
theorem zo_159_19 : zzOp 159 19 = some (.invokevirtual 232, 3) := by unfold zzOp; rw [zm_159]; decide +kernel
theorem zo_159_22 : zzOp 159 22 = some (.ineg, 1) := by unfold zzOp; rw [zm_159]; decide +kernel
theorem zo_159_23 : zzOp 159 23 = some (.istore_n 1, 1) := by unfold zzOp; rw [zm_159]; decide +kernel
theorem zo_159_24 : zzOp 159 24 = some (.aload_n 0, 1) := by unfold zzOp; rw [zm_159]; decide +kernel
theorem zo_159_25 : zzOp 159 25 = some (.dup, 1) := by unfold zzOp; rw [zm_159]; decide +kernel
theorem zo_159_26 : zzOp 159 26 = some (.getfield 194, 3) := by unfold zzOp; rw [zm_159]; decide +kernel
theorem zo_159_29 : zzOp 159 29 = some (.iconst 1, 1) := by unfold zzOp; rw [zm_159]; decide +kernel
theorem zo_159_30 : zzOp 159 30 = some (.isub, 1) := by unfold zzOp; rw [zm_159]; decide +kernel
theorem zo_159_31 : zzOp 159 31 = some (.putfield 194, 3) := by unfold zzOp; rw [zm_159]; decide +kernel
theorem zo_159_34 : zzOp 159 34 = some (.goto 127, 3) := by unfold zzOp; rw [zm_159]; decide +kernel
theorem zo_159_37 : zzOp 159 37 = some (.aload_n 0, 1) := by unfold zzOp; rw [zm_159]; decide +kernel
theorem zo_159_38 : zzOp 159 38 = some (.bipush 40, 2) := by unfold zzOp; rw [zm_159]; decide +kernel
theorem zo_159_40 : zzOp 159 40 = some (.invokevirtual 225, 3) := by unfold zzOp; rw [zm_159]; decide +kernel
theorem zo_159_43 : zzOp 159 43 = some (.ifCond .eq 52, 3) := by unfold zzOp; rw [zm_159]; decide +kernel
theorem zo_159_46 : zzOp 159 46 = some (.aload_n 0, 1) := by unfold zzOp; rw [zm_159]; decide +kernel
theorem zo_159_47 : zzOp 159 47 = some (.invokevirtual 228, 3) := by unfold zzOp; rw [zm_159]; decide +kernel
theorem zo_159_50 : zzOp 159 50 = some (.ifCond .eq 111, 3) := by unfold zzOp; rw [zm_159]; decide +kernel
theorem zo_159_53 : zzOp 159 53 = some (.aload_n 0, 1) := by unfold zzOp; rw [zm_159]; decide +kernel
theorem zo_159_54 : zzOp 159 54 = some (.invokevirtual 236, 3) := by unfold zzOp; rw [zm_159]; decide +kernel
theorem zo_159_57 : zzOp 159 57 = some (.istore_n 1, 1) := by unfold zzOp; rw [zm_159]; decide +kernel
theorem zo_159_58 : zzOp 159 58 = some (.aload_n 0, 1) := by unfold zzOp; rw [zm_159]; decide +kernel
theorem zo_159_59 : zzOp 159 59 = some (.bipush 41, 2) := by unfold zzOp; rw [zm_159]; decide +kernel
theorem zo_159_61 : zzOp 159 61 = some (.invokevirtual 225, 3) := by unfold zzOp; rw [zm_159]; decide +kernel
theorem zo_159_64 : zzOp 159 64 = some (.ifCond .ne 7, 3) := by unfold zzOp; rw [zm_159]; decide +kernel
theorem zo_159_67 : zzOp 159 67 = some (.aload_n 0, 1) := by unfold zzOp; rw [zm_159]; decide +kernel
theorem zo_159_68 : zzOp 159 68 = some (.invokevirtual 197, 3) := by unfold zzOp; rw [zm_159]; decide +kernel
theorem zo_159_71 : zzOp 159 71 = some (.aload_n 0, 1) := by unfold zzOp; rw [zm_159]; decide +kernel
theorem zo_159_72 : zzOp 159 72 = some (.dup, 1) := by unfold zzOp; rw [zm_159]; decide +kernel
theorem zo_159_73 : zzOp 159 73 = some (.getfield 194, 3) := by unfold zzOp; rw [zm_159]; decide +kernel
theorem zo_159_76 : zzOp 159 76 = some (.iconst 1, 1) := by unfold zzOp; rw [zm_159]; decide +kernel
theorem zo_159_77 : zzOp 159 77 = some (.isub, 1) := by unfold zzOp; rw [zm_159]; decide +kernel
theorem zo_159_78 : zzOp 159 78 = some (.putfield 194, 3) := by unfold zzOp; rw [zm_159]; decide +kernel
theorem zo_159_81 : zzOp 159 81 = some (.aload_n 0, 1) := by unfold zzOp; rw [zm_159]; decide +kernel
theorem zo_159_82 : zzOp 159 82 = some (.getfield 183, 3) := by unfold zzOp; rw [zm_159]; decide +kernel
theorem zo_159_85 : zzOp 159 85 = some (.ifCond .ne 76, 3) := by unfold zzOp; rw [zm_159]; decide +kernel
theorem zo_159_88 : zzOp 159 88 = some (.aload_n 0, 1) := by unfold zzOp; rw [zm_159]; decide +kernel
theorem zo_159_89 : zzOp 159 89 = some (.invokevirtual 200, 3) := by unfold zzOp; rw [zm_159]; decide +kernel
theorem zo_159_92 : zzOp 159 92 = some (.goto 69, 3) := by unfold zzOp; rw [zm_159]; decide +kernel
theorem zo_159_95 : zzOp 159 95 = some (.aload_n 0, 1) := by unfold zzOp; rw [zm_159]; decide +kernel
theorem zo_159_96 : zzOp 159 96 = some (.getfield 183, 3) := by unfold zzOp; rw [zm_159]; decide +kernel
theorem zo_159_99 : zzOp 159 99 = some (.ifCond .ne 24, 3) := by unfold zzOp; rw [zm_159]; decide +kernel
theorem zo_159_102 : zzOp 159 102 = some (.aload_n 0, 1) := by unfold zzOp; rw [zm_159]; decide +kernel
theorem zo_159_103 : zzOp 159 103 = some (.getfield 166, 3) := by unfold zzOp; rw [zm_159]; decide +kernel
theorem zo_159_106 : zzOp 159 106 = some (.iconst 2, 1) := by unfold zzOp; rw [zm_159]; decide +kernel
theorem zo_159_107 : zzOp 159 107 = some (.if_icmp .ne 16, 3) := by unfold zzOp; rw [zm_159]; decide +kernel
theorem zo_159_110 : zzOp 159 110 = some (.aload_n 0, 1) := by unfold zzOp; rw [zm_159]; decide +kernel
theorem zo_159_111 : zzOp 159 111 = some (.getfield 177, 3) := by unfold zzOp; rw [zm_159]; decide +kernel
theorem zo_159_114 : zzOp 159 114 = some (.l2i, 1) := by unfold zzOp; rw [zm_159]; decide +kernel
theorem zo_159_115 : zzOp 159 115 = some (.istore_n 1, 1) := by unfold zzOp; rw [zm_159]; decide +kernel
theorem zo_159_116 : zzOp 159 116 = some (.aload_n 0, 1) := by unfold zzOp; rw [zm_159]; decide +kernel
theorem zo_159_117 : zzOp 159 117 = some (.invokevirtual 200, 3) := by unfold zzOp; rw [zm_159]; decide +kernel
theorem zo_159_120 : zzOp 159 120 = some (.goto 41, 3) := by unfold zzOp; rw [zm_159]; decide +kernel
theorem zo_159_123 : zzOp 159 123 = some (.aload_n 0, 1) := by unfold zzOp; rw [zm_159]; decide +kernel
theorem zo_159_124 : zzOp 159 124 = some (.getfield 183, 3) := by unfold zzOp; rw [zm_159]; decide +kernel
theorem zo_159_127 : zzOp 159 127 = some (.ifCond .ne 30, 3) := by unfold zzOp; rw [zm_159]; decide +kernel
theorem zo_159_130 : zzOp 159 130 = some (.aload_n 0, 1) := by unfold zzOp; rw [zm_159]; decide +kernel
theorem zo_159_131 : zzOp 159 131 = some (.getfield 166, 3) := by unfold zzOp; rw [zm_159]; decide +kernel
theorem zo_159_134 : zzOp 159 134 = some (.iconst 1, 1) := by unfold zzOp; rw [zm_159]; decide +kernel
theorem zo_159_135 : zzOp 159 135 = some (.if_icmp .ne 22, 3) := by unfold zzOp; rw [zm_159]; decide +kernel
theorem zo_159_138 : zzOp 159 138 = some (.aload_n 0, 1) := by unfold zzOp; rw [zm_159]; decide +kernel
theorem zo_159_139 : zzOp 159 139 = some (.invokevirtual 239, 3) := by unfold zzOp; rw [zm_159]; decide +kernel
theorem zo_159_142 : zzOp 159 142 = some (.istore_n 1, 1) := by unfold zzOp; rw [zm_159]; decide +kernel
theorem zo_159_143 : zzOp 159 143 = some (.aload_n 0, 1) := by unfold zzOp; rw [zm_159]; decide +kernel
theorem zo_159_144 : zzOp 159 144 = some (.getfield 183, 3) := by unfold zzOp; rw [zm_159]; decide +kernel
theorem zo_159_147 : zzOp 159 147 = some (.ifCond .ne 14, 3) := by unfold zzOp; rw [zm_159]; decide +kernel
theorem zo_159_150 : zzOp 159 150 = some (.aload_n 0, 1) := by unfold zzOp; rw [zm_159]; decide +kernel
theorem zo_159_151 : zzOp 159 151 = some (.invokevirtual 200, 3) := by unfold zzOp; rw [zm_159]; decide +kernel
theorem zo_159_154 : zzOp 159 154 = some (.goto 7, 3) := by unfold zzOp; rw [zm_159]; decide +kernel
theorem zo_159_157 : zzOp 159 157 = some (.aload_n 0, 1) := by unfold zzOp; rw [zm_159]; decide +kernel
theorem zo_159_158 : zzOp 159 158 = some (.invokevirtual 197, 3) := by unfold zzOp; rw [zm_159]; decide +kernel
theorem zo_159_161 : zzOp 159 161 = some (.iload_n 1, 1) := by unfold zzOp; rw [zm_159]; decide +kernel
theorem zo_159_162 : zzOp 159 162 = some (.ireturn, 1) := by unfold zzOp; rw [zm_159]; decide +kernel
theorem zf_159_166 : zzGet zzFL (zzM 159).2.2.2.2.1 166 = some (7, 24) := by rw [zm_159]; decide +kernel
theorem zf_159_177 : zzGet zzFL (zzM 159).2.2.2.2.1 177 = some (7, 26) := by rw [zm_159]; decide +kernel
theorem zf_159_183 : zzGet zzFL (zzM 159).2.2.2.2.1 183 = some (7, 28) := by rw [zm_159]; decide +kernel
theorem zf_159_194 : zzGet zzFL (zzM 159).2.2.2.2.1 194 = some (7, 27) := by rw [zm_159]; decide +kernel
theorem zl_159_197 : zzGet zzML (zzM 159).2.2.2.2.1 197 = some (2, 153) := by rw [zm_159]; decide +kernel
theorem zl_159_200 : zzGet zzML (zzM 159).2.2.2.2.1 200 = some (2, 152) := by rw [zm_159]; decide +kernel
theorem zl_159_225 : zzGet zzML (zzM 159).2.2.2.2.1 225 = some (2, 156) := by rw [zm_159]; decide +kernel
theorem zl_159_228 : zzGet zzML (zzM 159).2.2.2.2.1 228 = some (2, 157) := by rw [zm_159]; decide +kernel
theorem zl_159_232 : zzGet zzML (zzM 159).2.2.2.2.1 232 = some (2, 159) := by rw [zm_159]; decide +kernel
theorem zl_159_236 : zzGet zzML (zzM 159).2.2.2.2.1 236 = some (2, 164) := by rw [zm_159]; decide +kernel
theorem zl_159_239 : zzGet zzML (zzM 159).2.2.2.2.1 239 = some (2, 158) := by rw [zm_159]; decide +kernel
theorem zm_160 : zzM 160 = (yX7_term, cX7_term, 2, (some .int), 7, 1, 1, zzc_160) := rfl
theorem zr_160 : (zzM 160).2.2.2.1 = (some .int) := by rw [zm_160]
theorem zo_160_0 : zzOp 160 0 = some (.aload_n 0, 1) := by unfold zzOp; rw [zm_160]; decide +kernel
theorem zo_160_1 : zzOp 160 1 = some (.invokevirtual 232, 3) := by unfold zzOp; rw [zm_160]; decide +kernel
theorem zo_160_4 : zzOp 160 4 = some (.istore_n 1, 1) := by unfold zzOp; rw [zm_160]; decide +kernel
theorem zo_160_5 : zzOp 160 5 = some (.aload_n 0, 1) := by unfold zzOp; rw [zm_160]; decide +kernel
theorem zo_160_6 : zzOp 160 6 = some (.bipush 42, 2) := by unfold zzOp; rw [zm_160]; decide +kernel
theorem zo_160_8 : zzOp 160 8 = some (.invokevirtual 225, 3) := by unfold zzOp; rw [zm_160]; decide +kernel
theorem zo_160_11 : zzOp 160 11 = some (.ifCond .eq 17, 3) := by unfold zzOp; rw [zm_160]; decide +kernel
theorem zo_160_14 : zzOp 160 14 = some (.aload_n 0, 1) := by unfold zzOp; rw [zm_160]; decide +kernel
theorem zo_160_15 : zzOp 160 15 = some (.invokevirtual 200, 3) := by unfold zzOp; rw [zm_160]; decide +kernel
theorem zo_160_18 : zzOp 160 18 = some (.iload_n 1, 1) := by unfold zzOp; rw [zm_160]; decide +kernel
theorem zo_160_19 : zzOp 160 19 = some (.aload_n 0, 1) := by unfold zzOp; rw [zm_160]; decide +kernel
theorem zo_160_20 : zzOp 160 20 = some (.invokevirtual 232, 3) := by unfold zzOp; rw [zm_160]; decide +kernel
theorem zo_160_23 : zzOp 160 23 = some (.imul, 1) := by unfold zzOp; rw [zm_160]; decide +kernel
theorem zo_160_24 : zzOp 160 24 = some (.istore_n 1, 1) := by unfold zzOp; rw [zm_160]; decide +kernel
theorem zo_160_25 : zzOp 160 25 = some (.goto (-20), 3) := by unfold zzOp; rw [zm_160]; decide +kernel
theorem zo_160_28 : zzOp 160 28 = some (.iload_n 1, 1) := by unfold zzOp; rw [zm_160]; decide +kernel
theorem zo_160_29 : zzOp 160 29 = some (.ireturn, 1) := by unfold zzOp; rw [zm_160]; decide +kernel
theorem zl_160_200 : zzGet zzML (zzM 160).2.2.2.2.1 200 = some (2, 152) := by rw [zm_160]; decide +kernel
theorem zl_160_225 : zzGet zzML (zzM 160).2.2.2.2.1 225 = some (2, 156) := by rw [zm_160]; decide +kernel
theorem zl_160_232 : zzGet zzML (zzM 160).2.2.2.2.1 232 = some (2, 159) := by rw [zm_160]; decide +kernel
theorem zm_161 : zzM 161 = (yX7_added, cX7_added, 4, (some .int), 7, 1, 1, zzc_161) := rfl
theorem zr_161 : (zzM 161).2.2.2.1 = (some .int) := by rw [zm_161]
theorem zo_161_0 : zzOp 161 0 = some (.aload_n 0, 1) := by unfold zzOp; rw [zm_161]; decide +kernel
theorem zo_161_1 : zzOp 161 1 = some (.invokevirtual 242, 3) := by unfold zzOp; rw [zm_161]; decide +kernel
theorem zo_161_4 : zzOp 161 4 = some (.istore_n 1, 1) := by unfold zzOp; rw [zm_161]; decide +kernel
theorem zo_161_5 : zzOp 161 5 = some (.aload_n 0, 1) := by unfold zzOp; rw [zm_161]; decide +kernel
theorem zo_161_6 : zzOp 161 6 = some (.bipush 43, 2) := by unfold zzOp; rw [zm_161]; decide +kernel
theorem zo_161_8 : zzOp 161 8 = some (.invokevirtual 225, 3) := by unfold zzOp; rw [zm_161]; decide +kernel
theorem zo_161_11 : zzOp 161 11 = some (.ifCond .ne 12, 3) := by unfold zzOp; rw [zm_161]; decide +kernel
theorem zo_161_14 : zzOp 161 14 = some (.aload_n 0, 1) := by unfold zzOp; rw [zm_161]; decide +kernel
theorem zo_161_15 : zzOp 161 15 = some (.bipush 45, 2) := by unfold zzOp; rw [zm_161]; decide +kernel
theorem zo_161_17 : zzOp 161 17 = some (.invokevirtual 225, 3) := by unfold zzOp; rw [zm_161]; decide +kernel
theorem zo_161_20 : zzOp 161 20 = some (.ifCond .eq 46, 3) := by unfold zzOp; rw [zm_161]; decide +kernel
theorem zo_161_23 : zzOp 161 23 = some (.aload_n 0, 1) := by unfold zzOp; rw [zm_161]; decide +kernel
theorem zo_161_24 : zzOp 161 24 = some (.getfield 177, 3) := by unfold zzOp; rw [zm_161]; decide +kernel
theorem zo_161_27 : zzOp 161 27 = some (.ldc2_w 245, 3) := by unfold zzOp; rw [zm_161]; decide +kernel
theorem zo_161_30 : zzOp 161 30 = some (.lcmp, 1) := by unfold zzOp; rw [zm_161]; decide +kernel
theorem zo_161_31 : zzOp 161 31 = some (.ifCond .ne 7, 3) := by unfold zzOp; rw [zm_161]; decide +kernel
theorem zo_161_34 : zzOp 161 34 = some (.iconst 1, 1) := by unfold zzOp; rw [zm_161]; decide +kernel
theorem zo_161_35 : zzOp 161 35 = some (.goto 4, 3) := by unfold zzOp; rw [zm_161]; decide +kernel
theorem zo_161_38 : zzOp 161 38 = some (.iconst 0, 1) := by unfold zzOp; rw [zm_161]; decide +kernel
theorem zo_161_39 : zzOp 161 39 = some (.istore_n 2, 1) := by unfold zzOp; rw [zm_161]; decide +kernel
theorem zo_161_40 : zzOp 161 40 = some (.aload_n 0, 1) := by unfold zzOp; rw [zm_161]; decide +kernel
theorem zo_161_41 : zzOp 161 41 = some (.invokevirtual 200, 3) := by unfold zzOp; rw [zm_161]; decide +kernel
theorem zo_161_44 : zzOp 161 44 = some (.aload_n 0, 1) := by unfold zzOp; rw [zm_161]; decide +kernel
theorem zo_161_45 : zzOp 161 45 = some (.invokevirtual 242, 3) := by unfold zzOp; rw [zm_161]; decide +kernel
theorem zo_161_48 : zzOp 161 48 = some (.istore_n 3, 1) := by unfold zzOp; rw [zm_161]; decide +kernel
theorem zo_161_49 : zzOp 161 49 = some (.iload_n 2, 1) := by unfold zzOp; rw [zm_161]; decide +kernel
theorem zo_161_50 : zzOp 161 50 = some (.ifCond .eq 9, 3) := by unfold zzOp; rw [zm_161]; decide +kernel
theorem zo_161_53 : zzOp 161 53 = some (.iload_n 1, 1) := by unfold zzOp; rw [zm_161]; decide +kernel
theorem zo_161_54 : zzOp 161 54 = some (.iload_n 3, 1) := by unfold zzOp; rw [zm_161]; decide +kernel
theorem zo_161_55 : zzOp 161 55 = some (.iadd, 1) := by unfold zzOp; rw [zm_161]; decide +kernel
theorem zo_161_56 : zzOp 161 56 = some (.goto 6, 3) := by unfold zzOp; rw [zm_161]; decide +kernel
theorem zo_161_59 : zzOp 161 59 = some (.iload_n 1, 1) := by unfold zzOp; rw [zm_161]; decide +kernel
theorem zo_161_60 : zzOp 161 60 = some (.iload_n 3, 1) := by unfold zzOp; rw [zm_161]; decide +kernel
theorem zo_161_61 : zzOp 161 61 = some (.isub, 1) := by unfold zzOp; rw [zm_161]; decide +kernel
theorem zo_161_62 : zzOp 161 62 = some (.istore_n 1, 1) := by unfold zzOp; rw [zm_161]; decide +kernel
theorem zo_161_63 : zzOp 161 63 = some (.goto (-58), 3) := by unfold zzOp; rw [zm_161]; decide +kernel
theorem zo_161_66 : zzOp 161 66 = some (.iload_n 1, 1) := by unfold zzOp; rw [zm_161]; decide +kernel
theorem zo_161_67 : zzOp 161 67 = some (.ireturn, 1) := by unfold zzOp; rw [zm_161]; decide +kernel
theorem zf_161_177 : zzGet zzFL (zzM 161).2.2.2.2.1 177 = some (7, 26) := by rw [zm_161]; decide +kernel
theorem zl_161_200 : zzGet zzML (zzM 161).2.2.2.2.1 200 = some (2, 152) := by rw [zm_161]; decide +kernel
theorem zl_161_225 : zzGet zzML (zzM 161).2.2.2.2.1 225 = some (2, 156) := by rw [zm_161]; decide +kernel
theorem zl_161_242 : zzGet zzML (zzM 161).2.2.2.2.1 242 = some (2, 160) := by rw [zm_161]; decide +kernel
theorem zc_161_245 : zzGet zzKL (zzM 161).2.2.2.2.1 245 = some (43) := by rw [zm_161]; decide +kernel
theorem zm_162 : zzM 162 = (yX7_not, cX7_not, 4, (some .int), 7, 1, 1, zzc_162) := rfl
theorem zr_162 : (zzM 162).2.2.2.1 = (some .int) := by rw [zm_162]
theorem zo_162_0 : zzOp 162 0 = some (.aload_n 0, 1) := by unfold zzOp; rw [zm_162]; decide +kernel
theorem zo_162_1 : zzOp 162 1 = some (.bipush 110, 2) := by unfold zzOp; rw [zm_162]; decide +kernel
theorem zo_162_3 : zzOp 162 3 = some (.bipush 111, 2) := by unfold zzOp; rw [zm_162]; decide +kernel
theorem zo_162_5 : zzOp 162 5 = some (.bipush 116, 2) := by unfold zzOp; rw [zm_162]; decide +kernel
theorem zo_162_7 : zzOp 162 7 = some (.iconst 0, 1) := by unfold zzOp; rw [zm_162]; decide +kernel
theorem zo_162_8 : zzOp 162 8 = some (.iconst 0, 1) := by unfold zzOp; rw [zm_162]; decide +kernel
theorem zo_162_9 : zzOp 162 9 = some (.iconst 0, 1) := by unfold zzOp; rw [zm_162]; decide +kernel
theorem zo_162_10 : zzOp 162 10 = some (.iconst 0, 1) := by unfold zzOp; rw [zm_162]; decide +kernel
theorem zo_162_11 : zzOp 162 11 = some (.iconst 0, 1) := by unfold zzOp; rw [zm_162]; decide +kernel
theorem zo_162_12 : zzOp 162 12 = some (.invokevirtual 203, 3) := by unfold zzOp; rw [zm_162]; decide +kernel
theorem zo_162_15 : zzOp 162 15 = some (.ifCond .eq 37, 3) := by unfold zzOp; rw [zm_162]; decide +kernel
theorem zo_162_18 : zzOp 162 18 = some (.aload_n 0, 1) := by unfold zzOp; rw [zm_162]; decide +kernel
theorem zo_162_19 : zzOp 162 19 = some (.invokevirtual 228, 3) := by unfold zzOp; rw [zm_162]; decide +kernel
theorem zo_162_22 : zzOp 162 22 = some (.ifCond .ne 5, 3) := by unfold zzOp; rw [zm_162]; decide +kernel
theorem zo_162_25 : zzOp 162 25 = some (.iconst 0, 1) := by unfold zzOp; rw [zm_162]; decide +kernel
theorem zo_162_26 : zzOp 162 26 = some (.ireturn, 1) := by unfold zzOp; rw [zm_162]; decide +kernel
theorem zo_162_27 : zzOp 162 27 = some (.aload_n 0, 1) := by unfold zzOp; rw [zm_162]; decide +kernel
theorem zo_162_28 : zzOp 162 28 = some (.invokevirtual 247, 3) := by unfold zzOp; rw [zm_162]; decide +kernel
theorem zo_162_31 : zzOp 162 31 = some (.istore_n 1, 1) := by unfold zzOp; rw [zm_162]; decide +kernel
theorem zo_162_32 : zzOp 162 32 = some (.aload_n 0, 1) := by unfold zzOp; rw [zm_162]; decide +kernel
theorem zo_162_33 : zzOp 162 33 = some (.dup, 1) := by unfold zzOp; rw [zm_162]; decide +kernel
theorem zo_162_34 : zzOp 162 34 = some (.getfield 194, 3) := by unfold zzOp; rw [zm_162]; decide +kernel
theorem zo_162_37 : zzOp 162 37 = some (.iconst 1, 1) := by unfold zzOp; rw [zm_162]; decide +kernel
theorem zo_162_38 : zzOp 162 38 = some (.isub, 1) := by unfold zzOp; rw [zm_162]; decide +kernel
theorem zo_162_39 : zzOp 162 39 = some (.putfield 194, 3) := by unfold zzOp; rw [zm_162]; decide +kernel
theorem zo_162_42 : zzOp 162 42 = some (.iload_n 1, 1) := by unfold zzOp; rw [zm_162]; decide +kernel
theorem zo_162_43 : zzOp 162 43 = some (.ifCond .ne 7, 3) := by unfold zzOp; rw [zm_162]; decide +kernel
theorem zo_162_46 : zzOp 162 46 = some (.iconst 1, 1) := by unfold zzOp; rw [zm_162]; decide +kernel
theorem zo_162_47 : zzOp 162 47 = some (.goto 4, 3) := by unfold zzOp; rw [zm_162]; decide +kernel
theorem zo_162_50 : zzOp 162 50 = some (.iconst 0, 1) := by unfold zzOp; rw [zm_162]; decide +kernel
theorem zo_162_51 : zzOp 162 51 = some (.ireturn, 1) := by unfold zzOp; rw [zm_162]; decide +kernel
theorem zo_162_52 : zzOp 162 52 = some (.aload_n 0, 1) := by unfold zzOp; rw [zm_162]; decide +kernel
theorem zo_162_53 : zzOp 162 53 = some (.invokevirtual 250, 3) := by unfold zzOp; rw [zm_162]; decide +kernel
theorem zo_162_56 : zzOp 162 56 = some (.istore_n 1, 1) := by unfold zzOp; rw [zm_162]; decide +kernel
theorem zo_162_57 : zzOp 162 57 = some (.aload_n 0, 1) := by unfold zzOp; rw [zm_162]; decide +kernel
theorem zo_162_58 : zzOp 162 58 = some (.bipush 60, 2) := by unfold zzOp; rw [zm_162]; decide +kernel
theorem zo_162_60 : zzOp 162 60 = some (.invokevirtual 225, 3) := by unfold zzOp; rw [zm_162]; decide +kernel
theorem zo_162_63 : zzOp 162 63 = some (.ifCond .ne 14, 3) := by unfold zzOp; rw [zm_162]; decide +kernel
theorem zo_162_66 : zzOp 162 66 = some (.aload_n 0, 1) := by unfold zzOp; rw [zm_162]; decide +kernel
theorem zo_162_67 : zzOp 162 67 = some (.bipush 61, 2) := by unfold zzOp; rw [zm_162]; decide +kernel
theorem zo_162_69 : zzOp 162 69 = some (.invokevirtual 225, 3) := by unfold zzOp; rw [zm_162]; decide +kernel
theorem zo_162_72 : zzOp 162 72 = some (.ifCond .ne 5, 3) := by unfold zzOp; rw [zm_162]; decide +kernel
theorem zo_162_75 : zzOp 162 75 = some (.iload_n 1, 1) := by unfold zzOp; rw [zm_162]; decide +kernel
theorem zo_162_76 : zzOp 162 76 = some (.ireturn, 1) := by unfold zzOp; rw [zm_162]; decide +kernel
theorem zo_162_77 : zzOp 162 77 = some (.aload_n 0, 1) := by unfold zzOp; rw [zm_162]; decide +kernel
theorem zo_162_78 : zzOp 162 78 = some (.getfield 177, 3) := by unfold zzOp; rw [zm_162]; decide +kernel
theorem zo_162_81 : zzOp 162 81 = some (.ldc2_w 253, 3) := by unfold zzOp; rw [zm_162]; decide +kernel
theorem zo_162_84 : zzOp 162 84 = some (.lcmp, 1) := by unfold zzOp; rw [zm_162]; decide +kernel
theorem zo_162_85 : zzOp 162 85 = some (.ifCond .ne 7, 3) := by unfold zzOp; rw [zm_162]; decide +kernel
theorem zo_162_88 : zzOp 162 88 = some (.iconst 1, 1) := by unfold zzOp; rw [zm_162]; decide +kernel
theorem zo_162_89 : zzOp 162 89 = some (.goto 4, 3) := by unfold zzOp; rw [zm_162]; decide +kernel
theorem zo_162_92 : zzOp 162 92 = some (.iconst 0, 1) := by unfold zzOp; rw [zm_162]; decide +kernel
theorem zo_162_93 : zzOp 162 93 = some (.istore_n 2, 1) := by unfold zzOp; rw [zm_162]; decide +kernel
theorem zo_162_94 : zzOp 162 94 = some (.aload_n 0, 1) := by unfold zzOp; rw [zm_162]; decide +kernel
theorem zo_162_95 : zzOp 162 95 = some (.invokevirtual 200, 3) := by unfold zzOp; rw [zm_162]; decide +kernel
theorem zo_162_98 : zzOp 162 98 = some (.aload_n 0, 1) := by unfold zzOp; rw [zm_162]; decide +kernel
theorem zo_162_99 : zzOp 162 99 = some (.invokevirtual 250, 3) := by unfold zzOp; rw [zm_162]; decide +kernel
theorem zo_162_102 : zzOp 162 102 = some (.istore_n 3, 1) := by unfold zzOp; rw [zm_162]; decide +kernel
theorem zo_162_103 : zzOp 162 103 = some (.iload_n 2, 1) := by unfold zzOp; rw [zm_162]; decide +kernel
theorem zo_162_104 : zzOp 162 104 = some (.ifCond .eq 11, 3) := by unfold zzOp; rw [zm_162]; decide +kernel
theorem zo_162_107 : zzOp 162 107 = some (.iload_n 1, 1) := by unfold zzOp; rw [zm_162]; decide +kernel
theorem zo_162_108 : zzOp 162 108 = some (.iload_n 3, 1) := by unfold zzOp; rw [zm_162]; decide +kernel
theorem zo_162_109 : zzOp 162 109 = some (.if_icmp .ge 15, 3) := by unfold zzOp; rw [zm_162]; decide +kernel
theorem zo_162_112 : zzOp 162 112 = some (.goto 8, 3) := by unfold zzOp; rw [zm_162]; decide +kernel
theorem zo_162_115 : zzOp 162 115 = some (.iload_n 1, 1) := by unfold zzOp; rw [zm_162]; decide +kernel
theorem zo_162_116 : zzOp 162 116 = some (.iload_n 3, 1) := by unfold zzOp; rw [zm_162]; decide +kernel
theorem zo_162_117 : zzOp 162 117 = some (.if_icmp .ne 7, 3) := by unfold zzOp; rw [zm_162]; decide +kernel
theorem zo_162_120 : zzOp 162 120 = some (.iconst 1, 1) := by unfold zzOp; rw [zm_162]; decide +kernel
theorem zo_162_121 : zzOp 162 121 = some (.goto 4, 3) := by unfold zzOp; rw [zm_162]; decide +kernel
theorem zo_162_124 : zzOp 162 124 = some (.iconst 0, 1) := by unfold zzOp; rw [zm_162]; decide +kernel
theorem zo_162_125 : zzOp 162 125 = some (.ireturn, 1) := by unfold zzOp; rw [zm_162]; decide +kernel
theorem zf_162_177 : zzGet zzFL (zzM 162).2.2.2.2.1 177 = some (7, 26) := by rw [zm_162]; decide +kernel
theorem zf_162_194 : zzGet zzFL (zzM 162).2.2.2.2.1 194 = some (7, 27) := by rw [zm_162]; decide +kernel
theorem zl_162_200 : zzGet zzML (zzM 162).2.2.2.2.1 200 = some (2, 152) := by rw [zm_162]; decide +kernel
theorem zl_162_203 : zzGet zzML (zzM 162).2.2.2.2.1 203 = some (2, 155) := by rw [zm_162]; decide +kernel
theorem zl_162_225 : zzGet zzML (zzM 162).2.2.2.2.1 225 = some (2, 156) := by rw [zm_162]; decide +kernel
theorem zl_162_228 : zzGet zzML (zzM 162).2.2.2.2.1 228 = some (2, 157) := by rw [zm_162]; decide +kernel
theorem zl_162_247 : zzGet zzML (zzM 162).2.2.2.2.1 247 = some (2, 162) := by rw [zm_162]; decide +kernel
theorem zl_162_250 : zzGet zzML (zzM 162).2.2.2.2.1 250 = some (2, 161) := by rw [zm_162]; decide +kernel
theorem zc_162_253 : zzGet zzKL (zzM 162).2.2.2.2.1 253 = some (60) := by rw [zm_162]; decide +kernel
theorem zm_163 : zzM 163 = (yX7_both, cX7_both, 3, (some .int), 7, 1, 1, zzc_163) := rfl
theorem zr_163 : (zzM 163).2.2.2.1 = (some .int) := by rw [zm_163]
theorem zo_163_0 : zzOp 163 0 = some (.aload_n 0, 1) := by unfold zzOp; rw [zm_163]; decide +kernel
theorem zo_163_1 : zzOp 163 1 = some (.invokevirtual 247, 3) := by unfold zzOp; rw [zm_163]; decide +kernel
theorem zo_163_4 : zzOp 163 4 = some (.istore_n 1, 1) := by unfold zzOp; rw [zm_163]; decide +kernel
theorem zo_163_5 : zzOp 163 5 = some (.aload_n 0, 1) := by unfold zzOp; rw [zm_163]; decide +kernel
theorem zo_163_6 : zzOp 163 6 = some (.bipush 97, 2) := by unfold zzOp; rw [zm_163]; decide +kernel
theorem zo_163_8 : zzOp 163 8 = some (.bipush 110, 2) := by unfold zzOp; rw [zm_163]; decide +kernel
theorem zo_163_10 : zzOp 163 10 = some (.bipush 100, 2) := by unfold zzOp; rw [zm_163]; decide +kernel
theorem zo_163_12 : zzOp 163 12 = some (.iconst 0, 1) := by unfold zzOp; rw [zm_163]; decide +kernel
theorem zo_163_13 : zzOp 163 13 = some (.iconst 0, 1) := by unfold zzOp; rw [zm_163]; decide +kernel
theorem zo_163_14 : zzOp 163 14 = some (.iconst 0, 1) := by unfold zzOp; rw [zm_163]; decide +kernel
theorem zo_163_15 : zzOp 163 15 = some (.iconst 0, 1) := by unfold zzOp; rw [zm_163]; decide +kernel
theorem zo_163_16 : zzOp 163 16 = some (.iconst 0, 1) := by unfold zzOp; rw [zm_163]; decide +kernel
theorem zo_163_17 : zzOp 163 17 = some (.invokevirtual 203, 3) := by unfold zzOp; rw [zm_163]; decide +kernel
theorem zo_163_20 : zzOp 163 20 = some (.ifCond .eq 29, 3) := by unfold zzOp; rw [zm_163]; decide +kernel
theorem zo_163_23 : zzOp 163 23 = some (.aload_n 0, 1) := by unfold zzOp; rw [zm_163]; decide +kernel
theorem zo_163_24 : zzOp 163 24 = some (.invokevirtual 200, 3) := by unfold zzOp; rw [zm_163]; decide +kernel
theorem zo_163_27 : zzOp 163 27 = some (.aload_n 0, 1) := by unfold zzOp; rw [zm_163]; decide +kernel
theorem zo_163_28 : zzOp 163 28 = some (.invokevirtual 247, 3) := by unfold zzOp; rw [zm_163]; decide +kernel
theorem zo_163_31 : zzOp 163 31 = some (.istore_n 2, 1) := by unfold zzOp; rw [zm_163]; decide +kernel
theorem zo_163_32 : zzOp 163 32 = some (.iload_n 1, 1) := by unfold zzOp; rw [zm_163]; decide +kernel
theorem zo_163_33 : zzOp 163 33 = some (.ifCond .eq 11, 3) := by unfold zzOp; rw [zm_163]; decide +kernel
theorem zo_163_36 : zzOp 163 36 = some (.iload_n 2, 1) := by unfold zzOp; rw [zm_163]; decide +kernel
theorem zo_163_37 : zzOp 163 37 = some (.ifCond .eq 7, 3) := by unfold zzOp; rw [zm_163]; decide +kernel
theorem zo_163_40 : zzOp 163 40 = some (.iconst 1, 1) := by unfold zzOp; rw [zm_163]; decide +kernel
theorem zo_163_41 : zzOp 163 41 = some (.goto 4, 3) := by unfold zzOp; rw [zm_163]; decide +kernel
theorem zo_163_44 : zzOp 163 44 = some (.iconst 0, 1) := by unfold zzOp; rw [zm_163]; decide +kernel
theorem zo_163_45 : zzOp 163 45 = some (.istore_n 1, 1) := by unfold zzOp; rw [zm_163]; decide +kernel
theorem zo_163_46 : zzOp 163 46 = some (.goto (-41), 3) := by unfold zzOp; rw [zm_163]; decide +kernel
theorem zo_163_49 : zzOp 163 49 = some (.iload_n 1, 1) := by unfold zzOp; rw [zm_163]; decide +kernel
theorem zo_163_50 : zzOp 163 50 = some (.ireturn, 1) := by unfold zzOp; rw [zm_163]; decide +kernel
theorem zl_163_200 : zzGet zzML (zzM 163).2.2.2.2.1 200 = some (2, 152) := by rw [zm_163]; decide +kernel
theorem zl_163_203 : zzGet zzML (zzM 163).2.2.2.2.1 203 = some (2, 155) := by rw [zm_163]; decide +kernel
theorem zl_163_247 : zzGet zzML (zzM 163).2.2.2.2.1 247 = some (2, 162) := by rw [zm_163]; decide +kernel
theorem zm_164 : zzM 164 = (yX7_either, cX7_either, 3, (some .int), 7, 1, 1, zzc_164) := rfl
theorem zr_164 : (zzM 164).2.2.2.1 = (some .int) := by rw [zm_164]
theorem zo_164_0 : zzOp 164 0 = some (.aload_n 0, 1) := by unfold zzOp; rw [zm_164]; decide +kernel
theorem zo_164_1 : zzOp 164 1 = some (.invokevirtual 255, 3) := by unfold zzOp; rw [zm_164]; decide +kernel
theorem zo_164_4 : zzOp 164 4 = some (.istore_n 1, 1) := by unfold zzOp; rw [zm_164]; decide +kernel
theorem zo_164_5 : zzOp 164 5 = some (.aload_n 0, 1) := by unfold zzOp; rw [zm_164]; decide +kernel
theorem zo_164_6 : zzOp 164 6 = some (.bipush 111, 2) := by unfold zzOp; rw [zm_164]; decide +kernel
theorem zo_164_8 : zzOp 164 8 = some (.bipush 114, 2) := by unfold zzOp; rw [zm_164]; decide +kernel
theorem zo_164_10 : zzOp 164 10 = some (.iconst 0, 1) := by unfold zzOp; rw [zm_164]; decide +kernel
theorem zo_164_11 : zzOp 164 11 = some (.iconst 0, 1) := by unfold zzOp; rw [zm_164]; decide +kernel
theorem zo_164_12 : zzOp 164 12 = some (.iconst 0, 1) := by unfold zzOp; rw [zm_164]; decide +kernel
theorem zo_164_13 : zzOp 164 13 = some (.iconst 0, 1) := by unfold zzOp; rw [zm_164]; decide +kernel
theorem zo_164_14 : zzOp 164 14 = some (.iconst 0, 1) := by unfold zzOp; rw [zm_164]; decide +kernel
theorem zo_164_15 : zzOp 164 15 = some (.iconst 0, 1) := by unfold zzOp; rw [zm_164]; decide +kernel
theorem zo_164_16 : zzOp 164 16 = some (.invokevirtual 203, 3) := by unfold zzOp; rw [zm_164]; decide +kernel
theorem zo_164_19 : zzOp 164 19 = some (.ifCond .eq 29, 3) := by unfold zzOp; rw [zm_164]; decide +kernel
theorem zo_164_22 : zzOp 164 22 = some (.aload_n 0, 1) := by unfold zzOp; rw [zm_164]; decide +kernel
theorem zo_164_23 : zzOp 164 23 = some (.invokevirtual 200, 3) := by unfold zzOp; rw [zm_164]; decide +kernel
theorem zo_164_26 : zzOp 164 26 = some (.aload_n 0, 1) := by unfold zzOp; rw [zm_164]; decide +kernel
theorem zo_164_27 : zzOp 164 27 = some (.invokevirtual 255, 3) := by unfold zzOp; rw [zm_164]; decide +kernel
theorem zo_164_30 : zzOp 164 30 = some (.istore_n 2, 1) := by unfold zzOp; rw [zm_164]; decide +kernel
theorem zo_164_31 : zzOp 164 31 = some (.iload_n 1, 1) := by unfold zzOp; rw [zm_164]; decide +kernel
theorem zo_164_32 : zzOp 164 32 = some (.ifCond .ne 7, 3) := by unfold zzOp; rw [zm_164]; decide +kernel
theorem zo_164_35 : zzOp 164 35 = some (.iload_n 2, 1) := by unfold zzOp; rw [zm_164]; decide +kernel
theorem zo_164_36 : zzOp 164 36 = some (.ifCond .eq 7, 3) := by unfold zzOp; rw [zm_164]; decide +kernel
theorem zo_164_39 : zzOp 164 39 = some (.iconst 1, 1) := by unfold zzOp; rw [zm_164]; decide +kernel
theorem zo_164_40 : zzOp 164 40 = some (.goto 4, 3) := by unfold zzOp; rw [zm_164]; decide +kernel
theorem zo_164_43 : zzOp 164 43 = some (.iconst 0, 1) := by unfold zzOp; rw [zm_164]; decide +kernel
theorem zo_164_44 : zzOp 164 44 = some (.istore_n 1, 1) := by unfold zzOp; rw [zm_164]; decide +kernel
theorem zo_164_45 : zzOp 164 45 = some (.goto (-40), 3) := by unfold zzOp; rw [zm_164]; decide +kernel
theorem zo_164_48 : zzOp 164 48 = some (.iload_n 1, 1) := by unfold zzOp; rw [zm_164]; decide +kernel
theorem zo_164_49 : zzOp 164 49 = some (.ireturn, 1) := by unfold zzOp; rw [zm_164]; decide +kernel
theorem zl_164_200 : zzGet zzML (zzM 164).2.2.2.2.1 200 = some (2, 152) := by rw [zm_164]; decide +kernel
theorem zl_164_203 : zzGet zzML (zzM 164).2.2.2.2.1 203 = some (2, 155) := by rw [zm_164]; decide +kernel
theorem zl_164_255 : zzGet zzML (zzM 164).2.2.2.2.1 255 = some (2, 163) := by rw [zm_164]; decide +kernel
theorem zm_165 : zzM 165 = (yX7_part, cX7_part, 3, (some .int), 7, 2, 1, zzc_165) := rfl
theorem zr_165 : (zzM 165).2.2.2.1 = (some .int) := by rw [zm_165]
theorem zo_165_0 : zzOp 165 0 = some (.iload_n 1, 1) := by unfold zzOp; rw [zm_165]; decide +kernel
theorem zo_165_1 : zzOp 165 1 = some (.ifCond .ne 7, 3) := by unfold zzOp; rw [zm_165]; decide +kernel
theorem zo_165_4 : zzOp 165 4 = some (.aload_n 0, 1) := by unfold zzOp; rw [zm_165]; decide +kernel
theorem zo_165_5 : zzOp 165 5 = some (.invokevirtual 197, 3) := by unfold zzOp; rw [zm_165]; decide +kernel
theorem zo_165_8 : zzOp 165 8 = some (.aload_n 0, 1) := by unfold zzOp; rw [zm_165]; decide +kernel
theorem zo_165_9 : zzOp 165 9 = some (.getfield 183, 3) := by unfold zzOp; rw [zm_165]; decide +kernel
theorem zo_165_12 : zzOp 165 12 = some (.ifCond .ne 7, 3) := by unfold zzOp; rw [zm_165]; decide +kernel
theorem zo_165_15 : zzOp 165 15 = some (.aload_n 0, 1) := by unfold zzOp; rw [zm_165]; decide +kernel
theorem zo_165_16 : zzOp 165 16 = some (.invokevirtual 200, 3) := by unfold zzOp; rw [zm_165]; decide +kernel
theorem zo_165_19 : zzOp 165 19 = some (.aload_n 0, 1) := by unfold zzOp; rw [zm_165]; decide +kernel
theorem zo_165_20 : zzOp 165 20 = some (.getfield 183, 3) := by unfold zzOp; rw [zm_165]; decide +kernel
theorem zo_165_23 : zzOp 165 23 = some (.ifCond .eq 7, 3) := by unfold zzOp; rw [zm_165]; decide +kernel
theorem zo_165_26 : zzOp 165 26 = some (.iconst 0, 1) := by unfold zzOp; rw [zm_165]; decide +kernel
theorem zo_165_27 : zzOp 165 27 = some (.goto 7, 3) := by unfold zzOp; rw [zm_165]; decide +kernel
theorem zo_165_30 : zzOp 165 30 = some (.aload_n 0, 1) := by unfold zzOp; rw [zm_165]; decide +kernel
theorem zo_165_31 : zzOp 165 31 = some (.invokevirtual 236, 3) := by unfold zzOp; rw [zm_165]; decide +kernel
theorem zo_165_34 : zzOp 165 34 = some (.istore_n 2, 1) := by unfold zzOp; rw [zm_165]; decide +kernel
theorem zo_165_35 : zzOp 165 35 = some (.aload_n 0, 1) := by unfold zzOp; rw [zm_165]; decide +kernel
theorem zo_165_36 : zzOp 165 36 = some (.bipush 59, 2) := by unfold zzOp; rw [zm_165]; decide +kernel
theorem zo_165_38 : zzOp 165 38 = some (.invokevirtual 225, 3) := by unfold zzOp; rw [zm_165]; decide +kernel
theorem zo_165_41 : zzOp 165 41 = some (.ifCond .ne 7, 3) := by unfold zzOp; rw [zm_165]; decide +kernel
theorem zo_165_44 : zzOp 165 44 = some (.aload_n 0, 1) := by unfold zzOp; rw [zm_165]; decide +kernel
theorem zo_165_45 : zzOp 165 45 = some (.invokevirtual 197, 3) := by unfold zzOp; rw [zm_165]; decide +kernel
theorem zo_165_48 : zzOp 165 48 = some (.aload_n 0, 1) := by unfold zzOp; rw [zm_165]; decide +kernel
theorem zo_165_49 : zzOp 165 49 = some (.getfield 183, 3) := by unfold zzOp; rw [zm_165]; decide +kernel
theorem zo_165_52 : zzOp 165 52 = some (.ifCond .ne 7, 3) := by unfold zzOp; rw [zm_165]; decide +kernel
theorem zo_165_55 : zzOp 165 55 = some (.aload_n 0, 1) := by unfold zzOp; rw [zm_165]; decide +kernel
theorem zo_165_56 : zzOp 165 56 = some (.invokevirtual 200, 3) := by unfold zzOp; rw [zm_165]; decide +kernel
theorem zo_165_59 : zzOp 165 59 = some (.iload_n 2, 1) := by unfold zzOp; rw [zm_165]; decide +kernel
theorem zo_165_60 : zzOp 165 60 = some (.ireturn, 1) := by unfold zzOp; rw [zm_165]; decide +kernel
theorem zf_165_183 : zzGet zzFL (zzM 165).2.2.2.2.1 183 = some (7, 28) := by rw [zm_165]; decide +kernel
theorem zl_165_197 : zzGet zzML (zzM 165).2.2.2.2.1 197 = some (2, 153) := by rw [zm_165]; decide +kernel
theorem zl_165_200 : zzGet zzML (zzM 165).2.2.2.2.1 200 = some (2, 152) := by rw [zm_165]; decide +kernel
theorem zl_165_225 : zzGet zzML (zzM 165).2.2.2.2.1 225 = some (2, 156) := by rw [zm_165]; decide +kernel
theorem zl_165_236 : zzGet zzML (zzM 165).2.2.2.2.1 236 = some (2, 164) := by rw [zm_165]; decide +kernel
theorem zm_166 : zzM 166 = (yX7_read, cX7_read, 6, (some .int), 7, 3, 1, zzc_166) := rfl
theorem zr_166 : (zzM 166).2.2.2.1 = (some .int) := by rw [zm_166]
theorem zo_166_0 : zzOp 166 0 = some (.aload_n 0, 1) := by unfold zzOp; rw [zm_166]; decide +kernel
theorem zo_166_1 : zzOp 166 1 = some (.sipush 160, 3) := by unfold zzOp; rw [zm_166]; decide +kernel
theorem zo_166_4 : zzOp 166 4 = some (.iload_n 1, 1) := by unfold zzOp; rw [zm_166]; decide +kernel
theorem zo_166_5 : zzOp 166 5 = some (.imul, 1) := by unfold zzOp; rw [zm_166]; decide +kernel
theorem zo_166_6 : zzOp 166 6 = some (.putfield 154, 3) := by unfold zzOp; rw [zm_166]; decide +kernel
theorem zo_166_9 : zzOp 166 9 = some (.aload_n 0, 1) := by unfold zzOp; rw [zm_166]; decide +kernel
theorem zo_166_10 : zzOp 166 10 = some (.aload_n 0, 1) := by unfold zzOp; rw [zm_166]; decide +kernel
theorem zo_166_11 : zzOp 166 11 = some (.getfield 17, 3) := by unfold zzOp; rw [zm_166]; decide +kernel
theorem zo_166_14 : zzOp 166 14 = some (.iload_n 1, 1) := by unfold zzOp; rw [zm_166]; decide +kernel
theorem zo_166_15 : zzOp 166 15 = some (.iaload, 1) := by unfold zzOp; rw [zm_166]; decide +kernel
theorem zo_166_16 : zzOp 166 16 = some (.putfield 151, 3) := by unfold zzOp; rw [zm_166]; decide +kernel
theorem zo_166_19 : zzOp 166 19 = some (.aload_n 0, 1) := by unfold zzOp; rw [zm_166]; decide +kernel
theorem zo_166_20 : zzOp 166 20 = some (.iconst 0, 1) := by unfold zzOp; rw [zm_166]; decide +kernel
theorem zo_166_21 : zzOp 166 21 = some (.putfield 157, 3) := by unfold zzOp; rw [zm_166]; decide +kernel
theorem zo_166_24 : zzOp 166 24 = some (.aload_n 0, 1) := by unfold zzOp; rw [zm_166]; decide +kernel
theorem zo_166_25 : zzOp 166 25 = some (.iconst 0, 1) := by unfold zzOp; rw [zm_166]; decide +kernel
theorem zo_166_26 : zzOp 166 26 = some (.putfield 194, 3) := by unfold zzOp; rw [zm_166]; decide +kernel
theorem zo_166_29 : zzOp 166 29 = some (.aload_n 0, 1) := by unfold zzOp; rw [zm_166]; decide +kernel
theorem zo_166_30 : zzOp 166 30 = some (.iconst 0, 1) := by unfold zzOp; rw [zm_166]; decide +kernel
theorem zo_166_31 : zzOp 166 31 = some (.putfield 183, 3) := by unfold zzOp; rw [zm_166]; decide +kernel
theorem zo_166_34 : zzOp 166 34 = some (.aload_n 0, 1) := by unfold zzOp; rw [zm_166]; decide +kernel
theorem zo_166_35 : zzOp 166 35 = some (.invokevirtual 200, 3) := by unfold zzOp; rw [zm_166]; decide +kernel
theorem zo_166_38 : zzOp 166 38 = some (.aload_n 0, 1) := by unfold zzOp; rw [zm_166]; decide +kernel
theorem zo_166_39 : zzOp 166 39 = some (.aload_n 0, 1) := by unfold zzOp; rw [zm_166]; decide +kernel
theorem zo_166_40 : zzOp 166 40 = some (.bipush 115, 2) := by unfold zzOp; rw [zm_166]; decide +kernel
theorem zo_166_42 : zzOp 166 42 = some (.bipush 111, 2) := by unfold zzOp; rw [zm_166]; decide +kernel
theorem zo_166_44 : zzOp 166 44 = some (.bipush 117, 2) := by unfold zzOp; rw [zm_166]; decide +kernel
theorem zo_166_46 : zzOp 166 46 = some (.bipush 110, 2) := by unfold zzOp; rw [zm_166]; decide +kernel
theorem zo_166_48 : zzOp 166 48 = some (.bipush 100, 2) := by unfold zzOp; rw [zm_166]; decide +kernel
theorem zo_166_50 : zzOp 166 50 = some (.bipush 115, 2) := by unfold zzOp; rw [zm_166]; decide +kernel
theorem zo_166_52 : zzOp 166 52 = some (.iconst 0, 1) := by unfold zzOp; rw [zm_166]; decide +kernel
theorem zo_166_53 : zzOp 166 53 = some (.iconst 0, 1) := by unfold zzOp; rw [zm_166]; decide +kernel
theorem zo_166_54 : zzOp 166 54 = some (.invokevirtual 203, 3) := by unfold zzOp; rw [zm_166]; decide +kernel
theorem zo_166_57 : zzOp 166 57 = some (.invokevirtual 258, 3) := by unfold zzOp; rw [zm_166]; decide +kernel
theorem zo_166_60 : zzOp 166 60 = some (.istore_n 3, 1) := by unfold zzOp; rw [zm_166]; decide +kernel
theorem zo_166_61 : zzOp 166 61 = some (.aload_n 0, 1) := by unfold zzOp; rw [zm_166]; decide +kernel
theorem zo_166_62 : zzOp 166 62 = some (.getfield 183, 3) := by unfold zzOp; rw [zm_166]; decide +kernel
theorem zo_166_65 : zzOp 166 65 = some (.ifCond .eq 7, 3) := by unfold zzOp; rw [zm_166]; decide +kernel
theorem zo_166_68 : zzOp 166 68 = some (.iconst 0, 1) := by unfold zzOp; rw [zm_166]; decide +kernel
theorem zo_166_69 : zzOp 166 69 = some (.goto 24, 3) := by unfold zzOp; rw [zm_166]; decide +kernel
theorem zo_166_72 : zzOp 166 72 = some (.aload_n 0, 1) := by unfold zzOp; rw [zm_166]; decide +kernel
theorem zo_166_73 : zzOp 166 73 = some (.aload_n 0, 1) := by unfold zzOp; rw [zm_166]; decide +kernel
theorem zo_166_74 : zzOp 166 74 = some (.bipush 116, 2) := by unfold zzOp; rw [zm_166]; decide +kernel
theorem zo_166_76 : zzOp 166 76 = some (.bipush 117, 2) := by unfold zzOp; rw [zm_166]; decide +kernel
theorem zo_166_78 : zzOp 166 78 = some (.bipush 114, 2) := by unfold zzOp; rw [zm_166]; decide +kernel
theorem zo_166_80 : zzOp 166 80 = some (.bipush 110, 2) := by unfold zzOp; rw [zm_166]; decide +kernel
theorem zo_166_82 : zzOp 166 82 = some (.bipush 115, 2) := by unfold zzOp; rw [zm_166]; decide +kernel
theorem zo_166_84 : zzOp 166 84 = some (.iconst 0, 1) := by unfold zzOp; rw [zm_166]; decide +kernel
theorem zo_166_85 : zzOp 166 85 = some (.iconst 0, 1) := by unfold zzOp; rw [zm_166]; decide +kernel
theorem zo_166_86 : zzOp 166 86 = some (.iconst 0, 1) := by unfold zzOp; rw [zm_166]; decide +kernel
theorem zo_166_87 : zzOp 166 87 = some (.invokevirtual 203, 3) := by unfold zzOp; rw [zm_166]; decide +kernel
theorem zo_166_90 : zzOp 166 90 = some (.invokevirtual 258, 3) := by unfold zzOp; rw [zm_166]; decide +kernel
theorem zo_166_93 : zzOp 166 93 = some (.istore 4, 2) := by unfold zzOp; rw [zm_166]; decide +kernel
theorem zo_166_95 : zzOp 166 95 = some (.aload_n 0, 1) := by unfold zzOp; rw [zm_166]; decide +kernel
theorem zo_166_96 : zzOp 166 96 = some (.getfield 183, 3) := by unfold zzOp; rw [zm_166]; decide +kernel
theorem zo_166_99 : zzOp 166 99 = some (.ifCond .eq 7, 3) := by unfold zzOp; rw [zm_166]; decide +kernel
theorem zo_166_102 : zzOp 166 102 = some (.iconst 0, 1) := by unfold zzOp; rw [zm_166]; decide +kernel
theorem zo_166_103 : zzOp 166 103 = some (.goto 23, 3) := by unfold zzOp; rw [zm_166]; decide +kernel
theorem zo_166_106 : zzOp 166 106 = some (.aload_n 0, 1) := by unfold zzOp; rw [zm_166]; decide +kernel
theorem zo_166_107 : zzOp 166 107 = some (.aload_n 0, 1) := by unfold zzOp; rw [zm_166]; decide +kernel
theorem zo_166_108 : zzOp 166 108 = some (.bipush 106, 2) := by unfold zzOp; rw [zm_166]; decide +kernel
theorem zo_166_110 : zzOp 166 110 = some (.bipush 111, 2) := by unfold zzOp; rw [zm_166]; decide +kernel
theorem zo_166_112 : zzOp 166 112 = some (.bipush 121, 2) := by unfold zzOp; rw [zm_166]; decide +kernel
theorem zo_166_114 : zzOp 166 114 = some (.bipush 115, 2) := by unfold zzOp; rw [zm_166]; decide +kernel
theorem zo_166_116 : zzOp 166 116 = some (.iconst 0, 1) := by unfold zzOp; rw [zm_166]; decide +kernel
theorem zo_166_117 : zzOp 166 117 = some (.iconst 0, 1) := by unfold zzOp; rw [zm_166]; decide +kernel
theorem zo_166_118 : zzOp 166 118 = some (.iconst 0, 1) := by unfold zzOp; rw [zm_166]; decide +kernel
theorem zo_166_119 : zzOp 166 119 = some (.iconst 0, 1) := by unfold zzOp; rw [zm_166]; decide +kernel
theorem zo_166_120 : zzOp 166 120 = some (.invokevirtual 203, 3) := by unfold zzOp; rw [zm_166]; decide +kernel
theorem zo_166_123 : zzOp 166 123 = some (.invokevirtual 258, 3) := by unfold zzOp; rw [zm_166]; decide +kernel
theorem zo_166_126 : zzOp 166 126 = some (.istore 5, 2) := by unfold zzOp; rw [zm_166]; decide +kernel
theorem zo_166_128 : zzOp 166 128 = some (.aload_n 0, 1) := by unfold zzOp; rw [zm_166]; decide +kernel
theorem zo_166_129 : zzOp 166 129 = some (.getfield 183, 3) := by unfold zzOp; rw [zm_166]; decide +kernel
theorem zo_166_132 : zzOp 166 132 = some (.ifCond .ne 14, 3) := by unfold zzOp; rw [zm_166]; decide +kernel
theorem zo_166_135 : zzOp 166 135 = some (.aload_n 0, 1) := by unfold zzOp; rw [zm_166]; decide +kernel
theorem zo_166_136 : zzOp 166 136 = some (.getfield 166, 3) := by unfold zzOp; rw [zm_166]; decide +kernel
theorem zo_166_139 : zzOp 166 139 = some (.ifCond .eq 7, 3) := by unfold zzOp; rw [zm_166]; decide +kernel
theorem zo_166_142 : zzOp 166 142 = some (.aload_n 0, 1) := by unfold zzOp; rw [zm_166]; decide +kernel
theorem zo_166_143 : zzOp 166 143 = some (.invokevirtual 197, 3) := by unfold zzOp; rw [zm_166]; decide +kernel
theorem zo_166_146 : zzOp 166 146 = some (.iload_n 2, 1) := by unfold zzOp; rw [zm_166]; decide +kernel
theorem zo_166_147 : zzOp 166 147 = some (.ifCond .ne 7, 3) := by unfold zzOp; rw [zm_166]; decide +kernel
theorem zo_166_150 : zzOp 166 150 = some (.iload_n 3, 1) := by unfold zzOp; rw [zm_166]; decide +kernel
theorem zo_166_151 : zzOp 166 151 = some (.goto 15, 3) := by unfold zzOp; rw [zm_166]; decide +kernel
theorem zo_166_154 : zzOp 166 154 = some (.iload_n 2, 1) := by unfold zzOp; rw [zm_166]; decide +kernel
theorem zo_166_155 : zzOp 166 155 = some (.iconst 1, 1) := by unfold zzOp; rw [zm_166]; decide +kernel
theorem zo_166_156 : zzOp 166 156 = some (.if_icmp .ne 8, 3) := by unfold zzOp; rw [zm_166]; decide +kernel
theorem zo_166_159 : zzOp 166 159 = some (.iload 4, 2) := by unfold zzOp; rw [zm_166]; decide +kernel
theorem zo_166_161 : zzOp 166 161 = some (.goto 5, 3) := by unfold zzOp; rw [zm_166]; decide +kernel
theorem zo_166_164 : zzOp 166 164 = some (.iload 5, 2) := by unfold zzOp; rw [zm_166]; decide +kernel
theorem zo_166_166 : zzOp 166 166 = some (.ireturn, 1) := by unfold zzOp; rw [zm_166]; decide +kernel
theorem zf_166_17 : zzGet zzFL (zzM 166).2.2.2.2.1 17 = some (7, 2) := by rw [zm_166]; decide +kernel
theorem zf_166_151 : zzGet zzFL (zzM 166).2.2.2.2.1 151 = some (7, 22) := by rw [zm_166]; decide +kernel
theorem zf_166_154 : zzGet zzFL (zzM 166).2.2.2.2.1 154 = some (7, 21) := by rw [zm_166]; decide +kernel
theorem zf_166_157 : zzGet zzFL (zzM 166).2.2.2.2.1 157 = some (7, 23) := by rw [zm_166]; decide +kernel
theorem zf_166_166 : zzGet zzFL (zzM 166).2.2.2.2.1 166 = some (7, 24) := by rw [zm_166]; decide +kernel
theorem zf_166_183 : zzGet zzFL (zzM 166).2.2.2.2.1 183 = some (7, 28) := by rw [zm_166]; decide +kernel
theorem zf_166_194 : zzGet zzFL (zzM 166).2.2.2.2.1 194 = some (7, 27) := by rw [zm_166]; decide +kernel
theorem zl_166_197 : zzGet zzML (zzM 166).2.2.2.2.1 197 = some (2, 153) := by rw [zm_166]; decide +kernel
theorem zl_166_200 : zzGet zzML (zzM 166).2.2.2.2.1 200 = some (2, 152) := by rw [zm_166]; decide +kernel
theorem zl_166_203 : zzGet zzML (zzM 166).2.2.2.2.1 203 = some (2, 155) := by rw [zm_166]; decide +kernel
theorem zl_166_258 : zzGet zzML (zzM 166).2.2.2.2.1 258 = some (2, 165) := by rw [zm_166]; decide +kernel
theorem zm_167 : zzM 167 = (yX7_text, cX7_text, 2, (some .int), 7, 1, 1, zzc_167) := rfl
theorem zr_167 : (zzM 167).2.2.2.1 = (some .int) := by rw [zm_167]
theorem zo_167_0 : zzOp 167 0 = some (.aload_n 0, 1) := by unfold zzOp; rw [zm_167]; decide +kernel
theorem zo_167_1 : zzOp 167 1 = some (.getfield 82, 3) := by unfold zzOp; rw [zm_167]; decide +kernel
theorem zo_167_4 : zzOp 167 4 = some (.bipush 6, 2) := by unfold zzOp; rw [zm_167]; decide +kernel
theorem zo_167_6 : zzOp 167 6 = some (.if_icmp .ne 6, 3) := by unfold zzOp; rw [zm_167]; decide +kernel
theorem zo_167_9 : zzOp 167 9 = some (.bipush (-4), 2) := by unfold zzOp; rw [zm_167]; decide +kernel
theorem zo_167_11 : zzOp 167 11 = some (.ireturn, 1) := by unfold zzOp; rw [zm_167]; decide +kernel
theorem zo_167_12 : zzOp 167 12 = some (.iconst 0, 1) := by unfold zzOp; rw [zm_167]; decide +kernel
theorem zo_167_13 : zzOp 167 13 = some (.istore_n 1, 1) := by unfold zzOp; rw [zm_167]; decide +kernel
theorem zo_167_14 : zzOp 167 14 = some (.iload_n 1, 1) := by unfold zzOp; rw [zm_167]; decide +kernel
theorem zo_167_15 : zzOp 167 15 = some (.aload_n 0, 1) := by unfold zzOp; rw [zm_167]; decide +kernel
theorem zo_167_16 : zzOp 167 16 = some (.getfield 148, 3) := by unfold zzOp; rw [zm_167]; decide +kernel
theorem zo_167_19 : zzOp 167 19 = some (.if_icmp .ge 30, 3) := by unfold zzOp; rw [zm_167]; decide +kernel
theorem zo_167_22 : zzOp 167 22 = some (.aload_n 0, 1) := by unfold zzOp; rw [zm_167]; decide +kernel
theorem zo_167_23 : zzOp 167 23 = some (.getfield 13, 3) := by unfold zzOp; rw [zm_167]; decide +kernel
theorem zo_167_26 : zzOp 167 26 = some (.sipush 160, 3) := by unfold zzOp; rw [zm_167]; decide +kernel
theorem zo_167_29 : zzOp 167 29 = some (.aload_n 0, 1) := by unfold zzOp; rw [zm_167]; decide +kernel
theorem zo_167_30 : zzOp 167 30 = some (.getfield 82, 3) := by unfold zzOp; rw [zm_167]; decide +kernel
theorem zo_167_33 : zzOp 167 33 = some (.imul, 1) := by unfold zzOp; rw [zm_167]; decide +kernel
theorem zo_167_34 : zzOp 167 34 = some (.iload_n 1, 1) := by unfold zzOp; rw [zm_167]; decide +kernel
theorem zo_167_35 : zzOp 167 35 = some (.iadd, 1) := by unfold zzOp; rw [zm_167]; decide +kernel
theorem zo_167_36 : zzOp 167 36 = some (.aload_n 0, 1) := by unfold zzOp; rw [zm_167]; decide +kernel
theorem zo_167_37 : zzOp 167 37 = some (.getfield 20, 3) := by unfold zzOp; rw [zm_167]; decide +kernel
theorem zo_167_40 : zzOp 167 40 = some (.iload_n 1, 1) := by unfold zzOp; rw [zm_167]; decide +kernel
theorem zo_167_41 : zzOp 167 41 = some (.iaload, 1) := by unfold zzOp; rw [zm_167]; decide +kernel
theorem zo_167_42 : zzOp 167 42 = some (.iastore, 1) := by unfold zzOp; rw [zm_167]; decide +kernel
theorem zo_167_43 : zzOp 167 43 = some (.iinc 1 1, 3) := by unfold zzOp; rw [zm_167]; decide +kernel
theorem zo_167_46 : zzOp 167 46 = some (.goto (-32), 3) := by unfold zzOp; rw [zm_167]; decide +kernel
theorem zo_167_49 : zzOp 167 49 = some (.aload_n 0, 1) := by unfold zzOp; rw [zm_167]; decide +kernel
theorem zo_167_50 : zzOp 167 50 = some (.getfield 17, 3) := by unfold zzOp; rw [zm_167]; decide +kernel
theorem zo_167_53 : zzOp 167 53 = some (.aload_n 0, 1) := by unfold zzOp; rw [zm_167]; decide +kernel
theorem zo_167_54 : zzOp 167 54 = some (.getfield 82, 3) := by unfold zzOp; rw [zm_167]; decide +kernel
theorem zo_167_57 : zzOp 167 57 = some (.aload_n 0, 1) := by unfold zzOp; rw [zm_167]; decide +kernel
theorem zo_167_58 : zzOp 167 58 = some (.getfield 148, 3) := by unfold zzOp; rw [zm_167]; decide +kernel
theorem zo_167_61 : zzOp 167 61 = some (.iastore, 1) := by unfold zzOp; rw [zm_167]; decide +kernel
theorem zo_167_62 : zzOp 167 62 = some (.aload_n 0, 1) := by unfold zzOp; rw [zm_167]; decide +kernel
theorem zo_167_63 : zzOp 167 63 = some (.iconst 0, 1) := by unfold zzOp; rw [zm_167]; decide +kernel
theorem zo_167_64 : zzOp 167 64 = some (.putfield 148, 3) := by unfold zzOp; rw [zm_167]; decide +kernel
theorem zo_167_67 : zzOp 167 67 = some (.aload_n 0, 1) := by unfold zzOp; rw [zm_167]; decide +kernel
theorem zo_167_68 : zzOp 167 68 = some (.aload_n 0, 1) := by unfold zzOp; rw [zm_167]; decide +kernel
theorem zo_167_69 : zzOp 167 69 = some (.getfield 82, 3) := by unfold zzOp; rw [zm_167]; decide +kernel
theorem zo_167_72 : zzOp 167 72 = some (.iconst 0, 1) := by unfold zzOp; rw [zm_167]; decide +kernel
theorem zo_167_73 : zzOp 167 73 = some (.invokevirtual 262, 3) := by unfold zzOp; rw [zm_167]; decide +kernel
theorem zo_167_76 : zzOp 167 76 = some (.istore_n 1, 1) := by unfold zzOp; rw [zm_167]; decide +kernel
theorem zo_167_77 : zzOp 167 77 = some (.aload_n 0, 1) := by unfold zzOp; rw [zm_167]; decide +kernel
theorem zo_167_78 : zzOp 167 78 = some (.getfield 183, 3) := by unfold zzOp; rw [zm_167]; decide +kernel
theorem zo_167_81 : zzOp 167 81 = some (.ifCond .eq 11, 3) := by unfold zzOp; rw [zm_167]; decide +kernel
theorem zo_167_84 : zzOp 167 84 = some (.bipush (-100), 2) := by unfold zzOp; rw [zm_167]; decide +kernel
theorem zo_167_86 : zzOp 167 86 = some (.aload_n 0, 1) := by unfold zzOp; rw [zm_167]; decide +kernel
theorem zo_167_87 : zzOp 167 87 = some (.getfield 187, 3) := by unfold zzOp; rw [zm_167]; decide +kernel
theorem zo_167_90 : zzOp 167 90 = some (.isub, 1) := by unfold zzOp; rw [zm_167]; decide +kernel
theorem zo_167_91 : zzOp 167 91 = some (.ireturn, 1) := by unfold zzOp; rw [zm_167]; decide +kernel
theorem zo_167_92 : zzOp 167 92 = some (.aload_n 0, 1) := by unfold zzOp; rw [zm_167]; decide +kernel
theorem zo_167_93 : zzOp 167 93 = some (.dup, 1) := by unfold zzOp; rw [zm_167]; decide +kernel
theorem zo_167_94 : zzOp 167 94 = some (.getfield 82, 3) := by unfold zzOp; rw [zm_167]; decide +kernel
theorem zo_167_97 : zzOp 167 97 = some (.iconst 1, 1) := by unfold zzOp; rw [zm_167]; decide +kernel
theorem zo_167_98 : zzOp 167 98 = some (.iadd, 1) := by unfold zzOp; rw [zm_167]; decide +kernel
theorem zo_167_99 : zzOp 167 99 = some (.putfield 82, 3) := by unfold zzOp; rw [zm_167]; decide +kernel
theorem zo_167_102 : zzOp 167 102 = some (.aload_n 0, 1) := by unfold zzOp; rw [zm_167]; decide +kernel
theorem zo_167_103 : zzOp 167 103 = some (.getfield 82, 3) := by unfold zzOp; rw [zm_167]; decide +kernel
theorem zo_167_106 : zzOp 167 106 = some (.iconst 1, 1) := by unfold zzOp; rw [zm_167]; decide +kernel
theorem zo_167_107 : zzOp 167 107 = some (.isub, 1) := by unfold zzOp; rw [zm_167]; decide +kernel
theorem zo_167_108 : zzOp 167 108 = some (.ireturn, 1) := by unfold zzOp; rw [zm_167]; decide +kernel
theorem zf_167_13 : zzGet zzFL (zzM 167).2.2.2.2.1 13 = some (7, 1) := by rw [zm_167]; decide +kernel
theorem zf_167_17 : zzGet zzFL (zzM 167).2.2.2.2.1 17 = some (7, 2) := by rw [zm_167]; decide +kernel
theorem zf_167_20 : zzGet zzFL (zzM 167).2.2.2.2.1 20 = some (7, 5) := by rw [zm_167]; decide +kernel
theorem zf_167_82 : zzGet zzFL (zzM 167).2.2.2.2.1 82 = some (7, 3) := by rw [zm_167]; decide +kernel
theorem zf_167_148 : zzGet zzFL (zzM 167).2.2.2.2.1 148 = some (7, 6) := by rw [zm_167]; decide +kernel
theorem zf_167_183 : zzGet zzFL (zzM 167).2.2.2.2.1 183 = some (7, 28) := by rw [zm_167]; decide +kernel
theorem zf_167_187 : zzGet zzFL (zzM 167).2.2.2.2.1 187 = some (7, 29) := by rw [zm_167]; decide +kernel
theorem zl_167_262 : zzGet zzML (zzM 167).2.2.2.2.1 262 = some (2, 166) := by rw [zm_167]; decide +kernel
theorem zm_168 : zzM 168 = (yX7_force, cX7_force, 3, (some .int), 7, 2, 1, zzc_168) := rfl
theorem zr_168 : (zzM 168).2.2.2.1 = (some .int) := by rw [zm_168]
theorem zo_168_0 : zzOp 168 0 = some (.iload_n 1, 1) := by unfold zzOp; rw [zm_168]; decide +kernel
theorem zo_168_1 : zzOp 168 1 = some (.i2l, 1) := by unfold zzOp; rw [zm_168]; decide +kernel
theorem zo_168_2 : zzOp 168 2 = some (.lconst 0, 1) := by unfold zzOp; rw [zm_168]; decide +kernel
theorem zo_168_3 : zzOp 168 3 = some (.aload_n 0, 1) := by unfold zzOp; rw [zm_168]; decide +kernel
theorem zo_168_4 : zzOp 168 4 = some (.getfield 82, 3) := by unfold zzOp; rw [zm_168]; decide +kernel
theorem zo_168_7 : zzOp 168 7 = some (.iconst 1, 1) := by unfold zzOp; rw [zm_168]; decide +kernel
theorem zo_168_8 : zzOp 168 8 = some (.isub, 1) := by unfold zzOp; rw [zm_168]; decide +kernel
theorem zo_168_9 : zzOp 168 9 = some (.i2l, 1) := by unfold zzOp; rw [zm_168]; decide +kernel
theorem zo_168_10 : zzOp 168 10 = some (.invokestatic 88, 3) := by unfold zzOp; rw [zm_168]; decide +kernel
theorem zo_168_13 : zzOp 168 13 = some (.ifCond .ne 6, 3) := by unfold zzOp; rw [zm_168]; decide +kernel
theorem zo_168_16 : zzOp 168 16 = some (.bipush (-2), 2) := by unfold zzOp; rw [zm_168]; decide +kernel
theorem zo_168_18 : zzOp 168 18 = some (.ireturn, 1) := by unfold zzOp; rw [zm_168]; decide +kernel
theorem zo_168_19 : zzOp 168 19 = some (.aload_n 0, 1) := by unfold zzOp; rw [zm_168]; decide +kernel
theorem zo_168_20 : zzOp 168 20 = some (.getfield 121, 3) := by unfold zzOp; rw [zm_168]; decide +kernel
theorem zo_168_23 : zzOp 168 23 = some (.istore_n 2, 1) := by unfold zzOp; rw [zm_168]; decide +kernel
theorem zo_168_24 : zzOp 168 24 = some (.aload_n 0, 1) := by unfold zzOp; rw [zm_168]; decide +kernel
theorem zo_168_25 : zzOp 168 25 = some (.iload_n 1, 1) := by unfold zzOp; rw [zm_168]; decide +kernel
theorem zo_168_26 : zzOp 168 26 = some (.putfield 121, 3) := by unfold zzOp; rw [zm_168]; decide +kernel
theorem zo_168_29 : zzOp 168 29 = some (.iload_n 2, 1) := by unfold zzOp; rw [zm_168]; decide +kernel
theorem zo_168_30 : zzOp 168 30 = some (.ireturn, 1) := by unfold zzOp; rw [zm_168]; decide +kernel
theorem zf_168_82 : zzGet zzFL (zzM 168).2.2.2.2.1 82 = some (7, 3) := by rw [zm_168]; decide +kernel
theorem zf_168_121 : zzGet zzFL (zzM 168).2.2.2.2.1 121 = some (7, 4) := by rw [zm_168]; decide +kernel
theorem zl_168_88 : zzGet zzML (zzM 168).2.2.2.2.1 88 = some (0, 136) := by rw [zm_168]; decide +kernel
theorem zm_169 : zzM 169 = (yX7_neighbour, cX7_neighbour, 6, (some .int), 7, 3, 1, zzc_169) := rfl
theorem zr_169 : (zzM 169).2.2.2.1 = (some .int) := by rw [zm_169]
theorem zo_169_0 : zzOp 169 0 = some (.aload_n 0, 1) := by unfold zzOp; rw [zm_169]; decide +kernel
theorem zo_169_1 : zzOp 169 1 = some (.getfield 35, 3) := by unfold zzOp; rw [zm_169]; decide +kernel
theorem zo_169_4 : zzOp 169 4 = some (.iload_n 1, 1) := by unfold zzOp; rw [zm_169]; decide +kernel
theorem zo_169_5 : zzOp 169 5 = some (.iaload, 1) := by unfold zzOp; rw [zm_169]; decide +kernel
theorem zo_169_6 : zzOp 169 6 = some (.istore_n 3, 1) := by unfold zzOp; rw [zm_169]; decide +kernel
theorem zo_169_7 : zzOp 169 7 = some (.iload_n 3, 1) := by unfold zzOp; rw [zm_169]; decide +kernel
theorem zo_169_8 : zzOp 169 8 = some (.iconst (-1), 1) := by unfold zzOp; rw [zm_169]; decide +kernel
theorem zo_169_9 : zzOp 169 9 = some (.if_icmp .ne 5, 3) := by unfold zzOp; rw [zm_169]; decide +kernel
theorem zo_169_12 : zzOp 169 12 = some (.iconst (-1), 1) := by unfold zzOp; rw [zm_169]; decide +kernel
theorem zo_169_13 : zzOp 169 13 = some (.ireturn, 1) := by unfold zzOp; rw [zm_169]; decide +kernel
theorem zo_169_14 : zzOp 169 14 = some (.iload_n 3, 1) := by unfold zzOp; rw [zm_169]; decide +kernel
theorem zo_169_15 : zzOp 169 15 = some (.iconst 4, 1) := by unfold zzOp; rw [zm_169]; decide +kernel
theorem zo_169_16 : zzOp 169 16 = some (.irem, 1) := by unfold zzOp; rw [zm_169]; decide +kernel
theorem zo_169_17 : zzOp 169 17 = some (.iload_n 2, 1) := by unfold zzOp; rw [zm_169]; decide +kernel
theorem zo_169_18 : zzOp 169 18 = some (.iadd, 1) := by unfold zzOp; rw [zm_169]; decide +kernel
theorem zo_169_19 : zzOp 169 19 = some (.istore 4, 2) := by unfold zzOp; rw [zm_169]; decide +kernel
theorem zo_169_21 : zzOp 169 21 = some (.iload 4, 2) := by unfold zzOp; rw [zm_169]; decide +kernel
theorem zo_169_23 : zzOp 169 23 = some (.i2l, 1) := by unfold zzOp; rw [zm_169]; decide +kernel
theorem zo_169_24 : zzOp 169 24 = some (.lconst 0, 1) := by unfold zzOp; rw [zm_169]; decide +kernel
theorem zo_169_25 : zzOp 169 25 = some (.ldc2_w 104, 3) := by unfold zzOp; rw [zm_169]; decide +kernel
theorem zo_169_28 : zzOp 169 28 = some (.invokestatic 88, 3) := by unfold zzOp; rw [zm_169]; decide +kernel
theorem zo_169_31 : zzOp 169 31 = some (.ifCond .ne 5, 3) := by unfold zzOp; rw [zm_169]; decide +kernel
theorem zo_169_34 : zzOp 169 34 = some (.iconst (-1), 1) := by unfold zzOp; rw [zm_169]; decide +kernel
theorem zo_169_35 : zzOp 169 35 = some (.ireturn, 1) := by unfold zzOp; rw [zm_169]; decide +kernel
theorem zo_169_36 : zzOp 169 36 = some (.iload_n 3, 1) := by unfold zzOp; rw [zm_169]; decide +kernel
theorem zo_169_37 : zzOp 169 37 = some (.iconst 4, 1) := by unfold zzOp; rw [zm_169]; decide +kernel
theorem zo_169_38 : zzOp 169 38 = some (.irem, 1) := by unfold zzOp; rw [zm_169]; decide +kernel
theorem zo_169_39 : zzOp 169 39 = some (.iconst 1, 1) := by unfold zzOp; rw [zm_169]; decide +kernel
theorem zo_169_40 : zzOp 169 40 = some (.if_icmp .eq 10, 3) := by unfold zzOp; rw [zm_169]; decide +kernel
theorem zo_169_43 : zzOp 169 43 = some (.iload_n 3, 1) := by unfold zzOp; rw [zm_169]; decide +kernel
theorem zo_169_44 : zzOp 169 44 = some (.iconst 4, 1) := by unfold zzOp; rw [zm_169]; decide +kernel
theorem zo_169_45 : zzOp 169 45 = some (.irem, 1) := by unfold zzOp; rw [zm_169]; decide +kernel
theorem zo_169_46 : zzOp 169 46 = some (.iconst 2, 1) := by unfold zzOp; rw [zm_169]; decide +kernel
theorem zo_169_47 : zzOp 169 47 = some (.if_icmp .ne 19, 3) := by unfold zzOp; rw [zm_169]; decide +kernel
theorem zo_169_50 : zzOp 169 50 = some (.iload 4, 2) := by unfold zzOp; rw [zm_169]; decide +kernel
theorem zo_169_52 : zzOp 169 52 = some (.iconst 1, 1) := by unfold zzOp; rw [zm_169]; decide +kernel
theorem zo_169_53 : zzOp 169 53 = some (.if_icmp .eq 9, 3) := by unfold zzOp; rw [zm_169]; decide +kernel
theorem zo_169_56 : zzOp 169 56 = some (.iload 4, 2) := by unfold zzOp; rw [zm_169]; decide +kernel
theorem zo_169_58 : zzOp 169 58 = some (.iconst 2, 1) := by unfold zzOp; rw [zm_169]; decide +kernel
theorem zo_169_59 : zzOp 169 59 = some (.if_icmp .ne 7, 3) := by unfold zzOp; rw [zm_169]; decide +kernel
theorem zo_169_62 : zzOp 169 62 = some (.iconst 1, 1) := by unfold zzOp; rw [zm_169]; decide +kernel
theorem zo_169_63 : zzOp 169 63 = some (.goto 4, 3) := by unfold zzOp; rw [zm_169]; decide +kernel
theorem zo_169_66 : zzOp 169 66 = some (.iconst 0, 1) := by unfold zzOp; rw [zm_169]; decide +kernel
theorem zo_169_67 : zzOp 169 67 = some (.istore 5, 2) := by unfold zzOp; rw [zm_169]; decide +kernel
theorem zo_169_69 : zzOp 169 69 = some (.iload 5, 2) := by unfold zzOp; rw [zm_169]; decide +kernel
theorem zo_169_71 : zzOp 169 71 = some (.ifCond .eq 14, 3) := by unfold zzOp; rw [zm_169]; decide +kernel
theorem zo_169_74 : zzOp 169 74 = some (.iload_n 3, 1) := by unfold zzOp; rw [zm_169]; decide +kernel
theorem zo_169_75 : zzOp 169 75 = some (.iconst 4, 1) := by unfold zzOp; rw [zm_169]; decide +kernel
theorem zo_169_76 : zzOp 169 76 = some (.idiv, 1) := by unfold zzOp; rw [zm_169]; decide +kernel
theorem zo_169_77 : zzOp 169 77 = some (.iconst 5, 1) := by unfold zzOp; rw [zm_169]; decide +kernel
theorem zo_169_78 : zzOp 169 78 = some (.if_icmp .eq 7, 3) := by unfold zzOp; rw [zm_169]; decide +kernel
theorem zo_169_81 : zzOp 169 81 = some (.iconst (-1), 1) := by unfold zzOp; rw [zm_169]; decide +kernel
theorem zo_169_82 : zzOp 169 82 = some (.goto 11, 3) := by unfold zzOp; rw [zm_169]; decide +kernel
theorem zo_169_85 : zzOp 169 85 = some (.aload_n 0, 1) := by unfold zzOp; rw [zm_169]; decide +kernel
theorem zo_169_86 : zzOp 169 86 = some (.getfield 38, 3) := by unfold zzOp; rw [zm_169]; decide +kernel
theorem zo_169_89 : zzOp 169 89 = some (.iload_n 3, 1) := by unfold zzOp; rw [zm_169]; decide +kernel
theorem zo_169_90 : zzOp 169 90 = some (.iload_n 2, 1) := by unfold zzOp; rw [zm_169]; decide +kernel
theorem zo_169_91 : zzOp 169 91 = some (.iadd, 1) := by unfold zzOp; rw [zm_169]; decide +kernel
theorem zo_169_92 : zzOp 169 92 = some (.iaload, 1) := by unfold zzOp; rw [zm_169]; decide +kernel
theorem zo_169_93 : zzOp 169 93 = some (.ireturn, 1) := by unfold zzOp; rw [zm_169]; decide +kernel
theorem zf_169_35 : zzGet zzFL (zzM 169).2.2.2.2.1 35 = some (7, 12) := by rw [zm_169]; decide +kernel
theorem zf_169_38 : zzGet zzFL (zzM 169).2.2.2.2.1 38 = some (7, 13) := by rw [zm_169]; decide +kernel
theorem zl_169_88 : zzGet zzML (zzM 169).2.2.2.2.1 88 = some (0, 136) := by rw [zm_169]; decide +kernel
theorem zc_169_104 : zzGet zzKL (zzM 169).2.2.2.2.1 104 = some (3) := by rw [zm_169]; decide +kernel
theorem zm_170 : zzM 170 = (yX7_besideOf, cX7_besideOf, 2, (some .int), 7, 2, 1, zzc_170) := rfl
theorem zr_170 : (zzM 170).2.2.2.1 = (some .int) := by rw [zm_170]
theorem zo_170_0 : zzOp 170 0 = some (.aload_n 0, 1) := by unfold zzOp; rw [zm_170]; decide +kernel
theorem zo_170_1 : zzOp 170 1 = some (.iload_n 1, 1) := by unfold zzOp; rw [zm_170]; decide +kernel
theorem zo_170_2 : zzOp 170 2 = some (.iconst (-1), 1) := by unfold zzOp; rw [zm_170]; decide +kernel
theorem zo_170_3 : zzOp 170 3 = some (.invokevirtual 265, 3) := by unfold zzOp; rw [zm_170]; decide +kernel
theorem zo_170_6 : zzOp 170 6 = some (.iconst (-1), 1) := by unfold zzOp; rw [zm_170]; decide +kernel
theorem zo_170_7 : zzOp 170 7 = some (.if_icmp .ne 7, 3) := by unfold zzOp; rw [zm_170]; decide +kernel
theorem zo_170_10 : zzOp 170 10 = some (.iconst 0, 1) := by unfold zzOp; rw [zm_170]; decide +kernel
theorem zo_170_11 : zzOp 170 11 = some (.goto 4, 3) := by unfold zzOp; rw [zm_170]; decide +kernel
theorem zo_170_14 : zzOp 170 14 = some (.iconst 1, 1) := by unfold zzOp; rw [zm_170]; decide +kernel
theorem zo_170_15 : zzOp 170 15 = some (.aload_n 0, 1) := by unfold zzOp; rw [zm_170]; decide +kernel
theorem zo_170_16 : zzOp 170 16 = some (.iload_n 1, 1) := by unfold zzOp; rw [zm_170]; decide +kernel
theorem zo_170_17 : zzOp 170 17 = some (.iconst 1, 1) := by unfold zzOp; rw [zm_170]; decide +kernel
theorem zo_170_18 : zzOp 170 18 = some (.invokevirtual 265, 3) := by unfold zzOp; rw [zm_170]; decide +kernel
theorem zo_170_21 : zzOp 170 21 = some (.iconst (-1), 1) := by unfold zzOp; rw [zm_170]; decide +kernel
theorem zo_170_22 : zzOp 170 22 = some (.if_icmp .ne 7, 3) := by unfold zzOp; rw [zm_170]; decide +kernel
theorem zo_170_25 : zzOp 170 25 = some (.iconst 0, 1) := by unfold zzOp; rw [zm_170]; decide +kernel
theorem zo_170_26 : zzOp 170 26 = some (.goto 4, 3) := by unfold zzOp; rw [zm_170]; decide +kernel
theorem zo_170_29 : zzOp 170 29 = some (.iconst 1, 1) := by unfold zzOp; rw [zm_170]; decide +kernel
theorem zo_170_30 : zzOp 170 30 = some (.iadd, 1) := by unfold zzOp; rw [zm_170]; decide +kernel
theorem zo_170_31 : zzOp 170 31 = some (.ireturn, 1) := by unfold zzOp; rw [zm_170]; decide +kernel
theorem zl_170_265 : zzGet zzML (zzM 170).2.2.2.2.1 265 = some (2, 169) := by rw [zm_170]; decide +kernel
theorem zm_171 : zzM 171 = (yX7_isTeacher, cX7_isTeacher, 2, (some .boolean), 7, 2, 1, zzc_171) := rfl
theorem zr_171 : (zzM 171).2.2.2.1 = (some .boolean) := by rw [zm_171]
theorem zo_171_0 : zzOp 171 0 = some (.iload_n 1, 1) := by unfold zzOp; rw [zm_171]; decide +kernel
theorem zo_171_1 : zzOp 171 1 = some (.iconst (-1), 1) := by unfold zzOp; rw [zm_171]; decide +kernel
theorem zo_171_2 : zzOp 171 2 = some (.if_icmp .eq 17, 3) := by unfold zzOp; rw [zm_171]; decide +kernel
theorem zo_171_5 : zzOp 171 5 = some (.aload_n 0, 1) := by unfold zzOp; rw [zm_171]; decide +kernel
theorem zo_171_6 : zzOp 171 6 = some (.getfield 26, 3) := by unfold zzOp; rw [zm_171]; decide +kernel
theorem zo_171_9 : zzOp 171 9 = some (.iload_n 1, 1) := by unfold zzOp; rw [zm_171]; decide +kernel
theorem zo_171_10 : zzOp 171 10 = some (.iaload, 1) := by unfold zzOp; rw [zm_171]; decide +kernel
theorem zo_171_11 : zzOp 171 11 = some (.iconst 5, 1) := by unfold zzOp; rw [zm_171]; decide +kernel
theorem zo_171_12 : zzOp 171 12 = some (.if_icmp .ne 7, 3) := by unfold zzOp; rw [zm_171]; decide +kernel
theorem zo_171_15 : zzOp 171 15 = some (.iconst 1, 1) := by unfold zzOp; rw [zm_171]; decide +kernel
theorem zo_171_16 : zzOp 171 16 = some (.goto 4, 3) := by unfold zzOp; rw [zm_171]; decide +kernel
theorem zo_171_19 : zzOp 171 19 = some (.iconst 0, 1) := by unfold zzOp; rw [zm_171]; decide +kernel
theorem zo_171_20 : zzOp 171 20 = some (.ireturn, 1) := by unfold zzOp; rw [zm_171]; decide +kernel
theorem zf_171_26 : zzGet zzFL (zzM 171).2.2.2.2.1 26 = some (7, 9) := by rw [zm_171]; decide +kernel
theorem zm_172 : zzM 172 = (yX7_isWatched, cX7_isWatched, 2, (some .boolean), 7, 2, 1, zzc_172) := rfl
theorem zr_172 : (zzM 172).2.2.2.1 = (some .boolean) := by rw [zm_172]
theorem zo_172_0 : zzOp 172 0 = some (.aload_n 0, 1) := by unfold zzOp; rw [zm_172]; decide +kernel
theorem zo_172_1 : zzOp 172 1 = some (.aload_n 0, 1) := by unfold zzOp; rw [zm_172]; decide +kernel
theorem zo_172_2 : zzOp 172 2 = some (.iload_n 1, 1) := by unfold zzOp; rw [zm_172]; decide +kernel
theorem zo_172_3 : zzOp 172 3 = some (.iconst (-1), 1) := by unfold zzOp; rw [zm_172]; decide +kernel
theorem zo_172_4 : zzOp 172 4 = some (.invokevirtual 265, 3) := by unfold zzOp; rw [zm_172]; decide +kernel
theorem zo_172_7 : zzOp 172 7 = some (.invokevirtual 268, 3) := by unfold zzOp; rw [zm_172]; decide +kernel
theorem zo_172_10 : zzOp 172 10 = some (.ifCond .ne 16, 3) := by unfold zzOp; rw [zm_172]; decide +kernel
theorem zo_172_13 : zzOp 172 13 = some (.aload_n 0, 1) := by unfold zzOp; rw [zm_172]; decide +kernel
theorem zo_172_14 : zzOp 172 14 = some (.aload_n 0, 1) := by unfold zzOp; rw [zm_172]; decide +kernel
theorem zo_172_15 : zzOp 172 15 = some (.iload_n 1, 1) := by unfold zzOp; rw [zm_172]; decide +kernel
theorem zo_172_16 : zzOp 172 16 = some (.iconst 1, 1) := by unfold zzOp; rw [zm_172]; decide +kernel
theorem zo_172_17 : zzOp 172 17 = some (.invokevirtual 265, 3) := by unfold zzOp; rw [zm_172]; decide +kernel
theorem zo_172_20 : zzOp 172 20 = some (.invokevirtual 268, 3) := by unfold zzOp; rw [zm_172]; decide +kernel
theorem zo_172_23 : zzOp 172 23 = some (.ifCond .eq 7, 3) := by unfold zzOp; rw [zm_172]; decide +kernel
theorem zo_172_26 : zzOp 172 26 = some (.iconst 1, 1) := by unfold zzOp; rw [zm_172]; decide +kernel
theorem zo_172_27 : zzOp 172 27 = some (.goto 4, 3) := by unfold zzOp; rw [zm_172]; decide +kernel
theorem zo_172_30 : zzOp 172 30 = some (.iconst 0, 1) := by unfold zzOp; rw [zm_172]; decide +kernel
theorem zo_172_31 : zzOp 172 31 = some (.ireturn, 1) := by unfold zzOp; rw [zm_172]; decide +kernel
theorem zl_172_265 : zzGet zzML (zzM 172).2.2.2.2.1 265 = some (2, 169) := by rw [zm_172]; decide +kernel
theorem zl_172_268 : zzGet zzML (zzM 172).2.2.2.2.1 268 = some (2, 171) := by rw [zm_172]; decide +kernel
theorem zm_173 : zzM 173 = (yX7_hasFriend, cX7_hasFriend, 2, (some .boolean), 7, 2, 1, zzc_173) := rfl
theorem zr_173 : (zzM 173).2.2.2.1 = (some .boolean) := by rw [zm_173]
theorem zo_173_0 : zzOp 173 0 = some (.aload_n 0, 1) := by unfold zzOp; rw [zm_173]; decide +kernel
theorem zo_173_1 : zzOp 173 1 = some (.getfield 32, 3) := by unfold zzOp; rw [zm_173]; decide +kernel
theorem zo_173_4 : zzOp 173 4 = some (.iload_n 1, 1) := by unfold zzOp; rw [zm_173]; decide +kernel
theorem zo_173_5 : zzOp 173 5 = some (.iaload, 1) := by unfold zzOp; rw [zm_173]; decide +kernel
theorem zo_173_6 : zzOp 173 6 = some (.iconst (-1), 1) := by unfold zzOp; rw [zm_173]; decide +kernel
theorem zo_173_7 : zzOp 173 7 = some (.if_icmp .eq 37, 3) := by unfold zzOp; rw [zm_173]; decide +kernel
theorem zo_173_10 : zzOp 173 10 = some (.aload_n 0, 1) := by unfold zzOp; rw [zm_173]; decide +kernel
theorem zo_173_11 : zzOp 173 11 = some (.iload_n 1, 1) := by unfold zzOp; rw [zm_173]; decide +kernel
theorem zo_173_12 : zzOp 173 12 = some (.iconst (-1), 1) := by unfold zzOp; rw [zm_173]; decide +kernel
theorem zo_173_13 : zzOp 173 13 = some (.invokevirtual 265, 3) := by unfold zzOp; rw [zm_173]; decide +kernel
theorem zo_173_16 : zzOp 173 16 = some (.aload_n 0, 1) := by unfold zzOp; rw [zm_173]; decide +kernel
theorem zo_173_17 : zzOp 173 17 = some (.getfield 32, 3) := by unfold zzOp; rw [zm_173]; decide +kernel
theorem zo_173_20 : zzOp 173 20 = some (.iload_n 1, 1) := by unfold zzOp; rw [zm_173]; decide +kernel
theorem zo_173_21 : zzOp 173 21 = some (.iaload, 1) := by unfold zzOp; rw [zm_173]; decide +kernel
theorem zo_173_22 : zzOp 173 22 = some (.if_icmp .eq 18, 3) := by unfold zzOp; rw [zm_173]; decide +kernel
theorem zo_173_25 : zzOp 173 25 = some (.aload_n 0, 1) := by unfold zzOp; rw [zm_173]; decide +kernel
theorem zo_173_26 : zzOp 173 26 = some (.iload_n 1, 1) := by unfold zzOp; rw [zm_173]; decide +kernel
theorem zo_173_27 : zzOp 173 27 = some (.iconst 1, 1) := by unfold zzOp; rw [zm_173]; decide +kernel
theorem zo_173_28 : zzOp 173 28 = some (.invokevirtual 265, 3) := by unfold zzOp; rw [zm_173]; decide +kernel
theorem zo_173_31 : zzOp 173 31 = some (.aload_n 0, 1) := by unfold zzOp; rw [zm_173]; decide +kernel
theorem zo_173_32 : zzOp 173 32 = some (.getfield 32, 3) := by unfold zzOp; rw [zm_173]; decide +kernel
theorem zo_173_35 : zzOp 173 35 = some (.iload_n 1, 1) := by unfold zzOp; rw [zm_173]; decide +kernel
theorem zo_173_36 : zzOp 173 36 = some (.iaload, 1) := by unfold zzOp; rw [zm_173]; decide +kernel
theorem zo_173_37 : zzOp 173 37 = some (.if_icmp .ne 7, 3) := by unfold zzOp; rw [zm_173]; decide +kernel
theorem zo_173_40 : zzOp 173 40 = some (.iconst 1, 1) := by unfold zzOp; rw [zm_173]; decide +kernel
theorem zo_173_41 : zzOp 173 41 = some (.goto 4, 3) := by unfold zzOp; rw [zm_173]; decide +kernel
theorem zo_173_44 : zzOp 173 44 = some (.iconst 0, 1) := by unfold zzOp; rw [zm_173]; decide +kernel
theorem zo_173_45 : zzOp 173 45 = some (.ireturn, 1) := by unfold zzOp; rw [zm_173]; decide +kernel
theorem zf_173_32 : zzGet zzFL (zzM 173).2.2.2.2.1 32 = some (7, 11) := by rw [zm_173]; decide +kernel
theorem zl_173_265 : zzGet zzML (zzM 173).2.2.2.2.1 265 = some (2, 169) := by rw [zm_173]; decide +kernel
theorem zm_174 : zzM 174 = (yX7_asks, cX7_asks, 4, (some .int), 7, 4, 1, zzc_174) := rfl
theorem zr_174 : (zzM 174).2.2.2.1 = (some .int) := by rw [zm_174]
theorem zo_174_0 : zzOp 174 0 = some (.aload_n 0, 1) := by unfold zzOp; rw [zm_174]; decide +kernel
theorem zo_174_1 : zzOp 174 1 = some (.aload_n 0, 1) := by unfold zzOp; rw [zm_174]; decide +kernel
theorem zo_174_2 : zzOp 174 2 = some (.getfield 35, 3) := by unfold zzOp; rw [zm_174]; decide +kernel
theorem zo_174_5 : zzOp 174 5 = some (.iload_n 2, 1) := by unfold zzOp; rw [zm_174]; decide +kernel
theorem zo_174_6 : zzOp 174 6 = some (.iaload, 1) := by unfold zzOp; rw [zm_174]; decide +kernel
theorem zo_174_7 : zzOp 174 7 = some (.iconst 4, 1) := by unfold zzOp; rw [zm_174]; decide +kernel
theorem zo_174_8 : zzOp 174 8 = some (.idiv, 1) := by unfold zzOp; rw [zm_174]; decide +kernel
theorem zo_174_9 : zzOp 174 9 = some (.putfield 207, 3) := by unfold zzOp; rw [zm_174]; decide +kernel
theorem zo_174_12 : zzOp 174 12 = some (.aload_n 0, 1) := by unfold zzOp; rw [zm_174]; decide +kernel
theorem zo_174_13 : zzOp 174 13 = some (.aload_n 0, 1) := by unfold zzOp; rw [zm_174]; decide +kernel
theorem zo_174_14 : zzOp 174 14 = some (.getfield 35, 3) := by unfold zzOp; rw [zm_174]; decide +kernel
theorem zo_174_17 : zzOp 174 17 = some (.iload_n 2, 1) := by unfold zzOp; rw [zm_174]; decide +kernel
theorem zo_174_18 : zzOp 174 18 = some (.iaload, 1) := by unfold zzOp; rw [zm_174]; decide +kernel
theorem zo_174_19 : zzOp 174 19 = some (.iconst 4, 1) := by unfold zzOp; rw [zm_174]; decide +kernel
theorem zo_174_20 : zzOp 174 20 = some (.irem, 1) := by unfold zzOp; rw [zm_174]; decide +kernel
theorem zo_174_21 : zzOp 174 21 = some (.putfield 210, 3) := by unfold zzOp; rw [zm_174]; decide +kernel
theorem zo_174_24 : zzOp 174 24 = some (.aload_n 0, 1) := by unfold zzOp; rw [zm_174]; decide +kernel
theorem zo_174_25 : zzOp 174 25 = some (.iload_n 3, 1) := by unfold zzOp; rw [zm_174]; decide +kernel
theorem zo_174_26 : zzOp 174 26 = some (.putfield 213, 3) := by unfold zzOp; rw [zm_174]; decide +kernel
theorem zo_174_29 : zzOp 174 29 = some (.aload_n 0, 1) := by unfold zzOp; rw [zm_174]; decide +kernel
theorem zo_174_30 : zzOp 174 30 = some (.aload_n 0, 1) := by unfold zzOp; rw [zm_174]; decide +kernel
theorem zo_174_31 : zzOp 174 31 = some (.getfield 29, 3) := by unfold zzOp; rw [zm_174]; decide +kernel
theorem zo_174_34 : zzOp 174 34 = some (.iload_n 2, 1) := by unfold zzOp; rw [zm_174]; decide +kernel
theorem zo_174_35 : zzOp 174 35 = some (.iaload, 1) := by unfold zzOp; rw [zm_174]; decide +kernel
theorem zo_174_36 : zzOp 174 36 = some (.putfield 216, 3) := by unfold zzOp; rw [zm_174]; decide +kernel
theorem zo_174_39 : zzOp 174 39 = some (.aload_n 0, 1) := by unfold zzOp; rw [zm_174]; decide +kernel
theorem zo_174_40 : zzOp 174 40 = some (.aload_n 0, 1) := by unfold zzOp; rw [zm_174]; decide +kernel
theorem zo_174_41 : zzOp 174 41 = some (.iload_n 2, 1) := by unfold zzOp; rw [zm_174]; decide +kernel
theorem zo_174_42 : zzOp 174 42 = some (.invokevirtual 140, 3) := by unfold zzOp; rw [zm_174]; decide +kernel
theorem zo_174_45 : zzOp 174 45 = some (.putfield 219, 3) := by unfold zzOp; rw [zm_174]; decide +kernel
theorem zo_174_48 : zzOp 174 48 = some (.aload_n 0, 1) := by unfold zzOp; rw [zm_174]; decide +kernel
theorem zo_174_49 : zzOp 174 49 = some (.aload_n 0, 1) := by unfold zzOp; rw [zm_174]; decide +kernel
theorem zo_174_50 : zzOp 174 50 = some (.iload_n 2, 1) := by unfold zzOp; rw [zm_174]; decide +kernel
theorem zo_174_51 : zzOp 174 51 = some (.invokevirtual 271, 3) := by unfold zzOp; rw [zm_174]; decide +kernel
theorem zo_174_54 : zzOp 174 54 = some (.ifCond .eq 7, 3) := by unfold zzOp; rw [zm_174]; decide +kernel
theorem zo_174_57 : zzOp 174 57 = some (.iconst 1, 1) := by unfold zzOp; rw [zm_174]; decide +kernel
theorem zo_174_58 : zzOp 174 58 = some (.goto 4, 3) := by unfold zzOp; rw [zm_174]; decide +kernel
theorem zo_174_61 : zzOp 174 61 = some (.iconst 0, 1) := by unfold zzOp; rw [zm_174]; decide +kernel
theorem zo_174_62 : zzOp 174 62 = some (.putfield 222, 3) := by unfold zzOp; rw [zm_174]; decide +kernel
theorem zo_174_65 : zzOp 174 65 = some (.aload_n 0, 1) := by unfold zzOp; rw [zm_174]; decide +kernel
theorem zo_174_66 : zzOp 174 66 = some (.aload_n 0, 1) := by unfold zzOp; rw [zm_174]; decide +kernel
theorem zo_174_67 : zzOp 174 67 = some (.getfield 121, 3) := by unfold zzOp; rw [zm_174]; decide +kernel
theorem zo_174_70 : zzOp 174 70 = some (.iload_n 1, 1) := by unfold zzOp; rw [zm_174]; decide +kernel
theorem zo_174_71 : zzOp 174 71 = some (.invokevirtual 262, 3) := by unfold zzOp; rw [zm_174]; decide +kernel
theorem zo_174_74 : zzOp 174 74 = some (.iload_n 1, 1) := by unfold zzOp; rw [zm_174]; decide +kernel
theorem zo_174_75 : zzOp 174 75 = some (.iconst 2, 1) := by unfold zzOp; rw [zm_174]; decide +kernel
theorem zo_174_76 : zzOp 174 76 = some (.if_icmp .ne 8, 3) := by unfold zzOp; rw [zm_174]; decide +kernel
theorem zo_174_79 : zzOp 174 79 = some (.bipush (-99), 2) := by unfold zzOp; rw [zm_174]; decide +kernel
theorem zo_174_81 : zzOp 174 81 = some (.goto 4, 3) := by unfold zzOp; rw [zm_174]; decide +kernel
theorem zo_174_84 : zzOp 174 84 = some (.iconst 0, 1) := by unfold zzOp; rw [zm_174]; decide +kernel
theorem zo_174_85 : zzOp 174 85 = some (.bipush 99, 2) := by unfold zzOp; rw [zm_174]; decide +kernel
theorem zo_174_87 : zzOp 174 87 = some (.invokestatic 274, 3) := by unfold zzOp; rw [zm_174]; decide +kernel
theorem zo_174_90 : zzOp 174 90 = some (.ireturn, 1) := by unfold zzOp; rw [zm_174]; decide +kernel
theorem zf_174_29 : zzGet zzFL (zzM 174).2.2.2.2.1 29 = some (7, 10) := by rw [zm_174]; decide +kernel
theorem zf_174_35 : zzGet zzFL (zzM 174).2.2.2.2.1 35 = some (7, 12) := by rw [zm_174]; decide +kernel
theorem zf_174_121 : zzGet zzFL (zzM 174).2.2.2.2.1 121 = some (7, 4) := by rw [zm_174]; decide +kernel
theorem zf_174_207 : zzGet zzFL (zzM 174).2.2.2.2.1 207 = some (7, 15) := by rw [zm_174]; decide +kernel
theorem zf_174_210 : zzGet zzFL (zzM 174).2.2.2.2.1 210 = some (7, 16) := by rw [zm_174]; decide +kernel
theorem zf_174_213 : zzGet zzFL (zzM 174).2.2.2.2.1 213 = some (7, 17) := by rw [zm_174]; decide +kernel
theorem zf_174_216 : zzGet zzFL (zzM 174).2.2.2.2.1 216 = some (7, 18) := by rw [zm_174]; decide +kernel
theorem zf_174_219 : zzGet zzFL (zzM 174).2.2.2.2.1 219 = some (7, 19) := by rw [zm_174]; decide +kernel
theorem zf_174_222 : zzGet zzFL (zzM 174).2.2.2.2.1 222 = some (7, 20) := by rw [zm_174]; decide +kernel
theorem zl_174_140 : zzGet zzML (zzM 174).2.2.2.2.1 140 = some (2, 170) := by rw [zm_174]; decide +kernel
theorem zl_174_262 : zzGet zzML (zzM 174).2.2.2.2.1 262 = some (2, 166) := by rw [zm_174]; decide +kernel
theorem zl_174_271 : zzGet zzML (zzM 174).2.2.2.2.1 271 = some (2, 173) := by rw [zm_174]; decide +kernel
theorem zl_174_274 : zzGet zzML (zzM 174).2.2.2.2.1 274 = some (0, 137) := by rw [zm_174]; decide +kernel
theorem zm_175 : zzM 175 = (yX7_noiseOf, cX7_noiseOf, 6, (some .int), 7, 2, 1, zzc_175) := rfl
theorem zr_175 : (zzM 175).2.2.2.1 = (some .int) := by rw [zm_175]
theorem zo_175_0 : zzOp 175 0 = some (.aload_n 0, 1) := by unfold zzOp; rw [zm_175]; decide +kernel
theorem zo_175_1 : zzOp 175 1 = some (.getfield 26, 3) := by unfold zzOp; rw [zm_175]; decide +kernel
theorem zo_175_4 : zzOp 175 4 = some (.iload_n 1, 1) := by unfold zzOp; rw [zm_175]; decide +kernel
theorem zo_175_5 : zzOp 175 5 = some (.iaload, 1) := by unfold zzOp; rw [zm_175]; decide +kernel
theorem zo_175_6 : zzOp 175 6 = some (.istore_n 2, 1) := by unfold zzOp; rw [zm_175]; decide +kernel
theorem zo_175_7 : zzOp 175 7 = some (.aload_n 0, 1) := by unfold zzOp; rw [zm_175]; decide +kernel
theorem zo_175_8 : zzOp 175 8 = some (.getfield 35, 3) := by unfold zzOp; rw [zm_175]; decide +kernel
theorem zo_175_11 : zzOp 175 11 = some (.iload_n 1, 1) := by unfold zzOp; rw [zm_175]; decide +kernel
theorem zo_175_12 : zzOp 175 12 = some (.iaload, 1) := by unfold zzOp; rw [zm_175]; decide +kernel
theorem zo_175_13 : zzOp 175 13 = some (.iconst (-1), 1) := by unfold zzOp; rw [zm_175]; decide +kernel
theorem zo_175_14 : zzOp 175 14 = some (.if_icmp .eq 21, 3) := by unfold zzOp; rw [zm_175]; decide +kernel
theorem zo_175_17 : zzOp 175 17 = some (.iload_n 2, 1) := by unfold zzOp; rw [zm_175]; decide +kernel
theorem zo_175_18 : zzOp 175 18 = some (.iconst 5, 1) := by unfold zzOp; rw [zm_175]; decide +kernel
theorem zo_175_19 : zzOp 175 19 = some (.if_icmp .eq 16, 3) := by unfold zzOp; rw [zm_175]; decide +kernel
theorem zo_175_22 : zzOp 175 22 = some (.iload_n 2, 1) := by unfold zzOp; rw [zm_175]; decide +kernel
theorem zo_175_23 : zzOp 175 23 = some (.iconst 3, 1) := by unfold zzOp; rw [zm_175]; decide +kernel
theorem zo_175_24 : zzOp 175 24 = some (.if_icmp .ne 13, 3) := by unfold zzOp; rw [zm_175]; decide +kernel
theorem zo_175_27 : zzOp 175 27 = some (.aload_n 0, 1) := by unfold zzOp; rw [zm_175]; decide +kernel
theorem zo_175_28 : zzOp 175 28 = some (.iload_n 1, 1) := by unfold zzOp; rw [zm_175]; decide +kernel
theorem zo_175_29 : zzOp 175 29 = some (.invokevirtual 143, 3) := by unfold zzOp; rw [zm_175]; decide +kernel
theorem zo_175_32 : zzOp 175 32 = some (.ifCond .eq 5, 3) := by unfold zzOp; rw [zm_175]; decide +kernel
theorem zo_175_35 : zzOp 175 35 = some (.iconst 0, 1) := by unfold zzOp; rw [zm_175]; decide +kernel
theorem zo_175_36 : zzOp 175 36 = some (.ireturn, 1) := by unfold zzOp; rw [zm_175]; decide +kernel
theorem zo_175_37 : zzOp 175 37 = some (.aload_n 0, 1) := by unfold zzOp; rw [zm_175]; decide +kernel
theorem zo_175_38 : zzOp 175 38 = some (.iconst 0, 1) := by unfold zzOp; rw [zm_175]; decide +kernel
theorem zo_175_39 : zzOp 175 39 = some (.iload_n 1, 1) := by unfold zzOp; rw [zm_175]; decide +kernel
theorem zo_175_40 : zzOp 175 40 = some (.aload_n 0, 1) := by unfold zzOp; rw [zm_175]; decide +kernel
theorem zo_175_41 : zzOp 175 41 = some (.getfield 118, 3) := by unfold zzOp; rw [zm_175]; decide +kernel
theorem zo_175_44 : zzOp 175 44 = some (.invokevirtual 278, 3) := by unfold zzOp; rw [zm_175]; decide +kernel
theorem zo_175_47 : zzOp 175 47 = some (.istore_n 3, 1) := by unfold zzOp; rw [zm_175]; decide +kernel
theorem zo_175_48 : zzOp 175 48 = some (.aload_n 0, 1) := by unfold zzOp; rw [zm_175]; decide +kernel
theorem zo_175_49 : zzOp 175 49 = some (.getfield 29, 3) := by unfold zzOp; rw [zm_175]; decide +kernel
theorem zo_175_52 : zzOp 175 52 = some (.iload_n 1, 1) := by unfold zzOp; rw [zm_175]; decide +kernel
theorem zo_175_53 : zzOp 175 53 = some (.iaload, 1) := by unfold zzOp; rw [zm_175]; decide +kernel
theorem zo_175_54 : zzOp 175 54 = some (.istore 4, 2) := by unfold zzOp; rw [zm_175]; decide +kernel
theorem zo_175_56 : zzOp 175 56 = some (.aload_n 0, 1) := by unfold zzOp; rw [zm_175]; decide +kernel
theorem zo_175_57 : zzOp 175 57 = some (.getfield 35, 3) := by unfold zzOp; rw [zm_175]; decide +kernel
theorem zo_175_60 : zzOp 175 60 = some (.iload_n 1, 1) := by unfold zzOp; rw [zm_175]; decide +kernel
theorem zo_175_61 : zzOp 175 61 = some (.iaload, 1) := by unfold zzOp; rw [zm_175]; decide +kernel
theorem zo_175_62 : zzOp 175 62 = some (.iconst 4, 1) := by unfold zzOp; rw [zm_175]; decide +kernel
theorem zo_175_63 : zzOp 175 63 = some (.idiv, 1) := by unfold zzOp; rw [zm_175]; decide +kernel
theorem zo_175_64 : zzOp 175 64 = some (.iconst 5, 1) := by unfold zzOp; rw [zm_175]; decide +kernel
theorem zo_175_65 : zzOp 175 65 = some (.if_icmp .ne 12, 3) := by unfold zzOp; rw [zm_175]; decide +kernel
theorem zo_175_68 : zzOp 175 68 = some (.iconst 2, 1) := by unfold zzOp; rw [zm_175]; decide +kernel
theorem zo_175_69 : zzOp 175 69 = some (.iload_n 3, 1) := by unfold zzOp; rw [zm_175]; decide +kernel
theorem zo_175_70 : zzOp 175 70 = some (.imul, 1) := by unfold zzOp; rw [zm_175]; decide +kernel
theorem zo_175_71 : zzOp 175 71 = some (.iload 4, 2) := by unfold zzOp; rw [zm_175]; decide +kernel
theorem zo_175_73 : zzOp 175 73 = some (.iadd, 1) := by unfold zzOp; rw [zm_175]; decide +kernel
theorem zo_175_74 : zzOp 175 74 = some (.goto 6, 3) := by unfold zzOp; rw [zm_175]; decide +kernel
theorem zo_175_77 : zzOp 175 77 = some (.iconst 2, 1) := by unfold zzOp; rw [zm_175]; decide +kernel
theorem zo_175_78 : zzOp 175 78 = some (.iload_n 3, 1) := by unfold zzOp; rw [zm_175]; decide +kernel
theorem zo_175_79 : zzOp 175 79 = some (.imul, 1) := by unfold zzOp; rw [zm_175]; decide +kernel
theorem zo_175_80 : zzOp 175 80 = some (.istore 5, 2) := by unfold zzOp; rw [zm_175]; decide +kernel
theorem zo_175_82 : zzOp 175 82 = some (.iload_n 2, 1) := by unfold zzOp; rw [zm_175]; decide +kernel
theorem zo_175_83 : zzOp 175 83 = some (.iconst 1, 1) := by unfold zzOp; rw [zm_175]; decide +kernel
theorem zo_175_84 : zzOp 175 84 = some (.if_icmp .ne 8, 3) := by unfold zzOp; rw [zm_175]; decide +kernel
theorem zo_175_87 : zzOp 175 87 = some (.iload 5, 2) := by unfold zzOp; rw [zm_175]; decide +kernel
theorem zo_175_89 : zzOp 175 89 = some (.goto 41, 3) := by unfold zzOp; rw [zm_175]; decide +kernel
theorem zo_175_92 : zzOp 175 92 = some (.iload_n 2, 1) := by unfold zzOp; rw [zm_175]; decide +kernel
theorem zo_175_93 : zzOp 175 93 = some (.iconst 3, 1) := by unfold zzOp; rw [zm_175]; decide +kernel
theorem zo_175_94 : zzOp 175 94 = some (.if_icmp .ne 10, 3) := by unfold zzOp; rw [zm_175]; decide +kernel
theorem zo_175_97 : zzOp 175 97 = some (.iload 5, 2) := by unfold zzOp; rw [zm_175]; decide +kernel
theorem zo_175_99 : zzOp 175 99 = some (.iconst 5, 1) := by unfold zzOp; rw [zm_175]; decide +kernel
theorem zo_175_100 : zzOp 175 100 = some (.iadd, 1) := by unfold zzOp; rw [zm_175]; decide +kernel
theorem zo_175_101 : zzOp 175 101 = some (.goto 29, 3) := by unfold zzOp; rw [zm_175]; decide +kernel
theorem zo_175_104 : zzOp 175 104 = some (.iload_n 2, 1) := by unfold zzOp; rw [zm_175]; decide +kernel
theorem zo_175_105 : zzOp 175 105 = some (.iconst 2, 1) := by unfold zzOp; rw [zm_175]; decide +kernel
theorem zo_175_106 : zzOp 175 106 = some (.if_icmp .ne 9, 3) := by unfold zzOp; rw [zm_175]; decide +kernel
theorem zo_175_109 : zzOp 175 109 = some (.iload_n 3, 1) := by unfold zzOp; rw [zm_175]; decide +kernel
theorem zo_175_110 : zzOp 175 110 = some (.iconst 2, 1) := by unfold zzOp; rw [zm_175]; decide +kernel
theorem zo_175_111 : zzOp 175 111 = some (.idiv, 1) := by unfold zzOp; rw [zm_175]; decide +kernel
theorem zo_175_112 : zzOp 175 112 = some (.goto 18, 3) := by unfold zzOp; rw [zm_175]; decide +kernel
theorem zo_175_115 : zzOp 175 115 = some (.iload_n 2, 1) := by unfold zzOp; rw [zm_175]; decide +kernel
theorem zo_175_116 : zzOp 175 116 = some (.iconst 4, 1) := by unfold zzOp; rw [zm_175]; decide +kernel
theorem zo_175_117 : zzOp 175 117 = some (.if_icmp .ne 12, 3) := by unfold zzOp; rw [zm_175]; decide +kernel
theorem zo_175_120 : zzOp 175 120 = some (.iload_n 3, 1) := by unfold zzOp; rw [zm_175]; decide +kernel
theorem zo_175_121 : zzOp 175 121 = some (.iconst 2, 1) := by unfold zzOp; rw [zm_175]; decide +kernel
theorem zo_175_122 : zzOp 175 122 = some (.idiv, 1) := by unfold zzOp; rw [zm_175]; decide +kernel
theorem zo_175_123 : zzOp 175 123 = some (.iload 4, 2) := by unfold zzOp; rw [zm_175]; decide +kernel
theorem zo_175_125 : zzOp 175 125 = some (.iadd, 1) := by unfold zzOp; rw [zm_175]; decide +kernel
theorem zo_175_126 : zzOp 175 126 = some (.goto 4, 3) := by unfold zzOp; rw [zm_175]; decide +kernel
theorem zo_175_129 : zzOp 175 129 = some (.iload_n 3, 1) := by unfold zzOp; rw [zm_175]; decide +kernel
theorem zo_175_130 : zzOp 175 130 = some (.ireturn, 1) := by unfold zzOp; rw [zm_175]; decide +kernel
theorem zf_175_26 : zzGet zzFL (zzM 175).2.2.2.2.1 26 = some (7, 9) := by rw [zm_175]; decide +kernel
theorem zf_175_29 : zzGet zzFL (zzM 175).2.2.2.2.1 29 = some (7, 10) := by rw [zm_175]; decide +kernel
theorem zf_175_35 : zzGet zzFL (zzM 175).2.2.2.2.1 35 = some (7, 12) := by rw [zm_175]; decide +kernel
theorem zf_175_118 : zzGet zzFL (zzM 175).2.2.2.2.1 118 = some (7, 7) := by rw [zm_175]; decide +kernel
theorem zl_175_143 : zzGet zzML (zzM 175).2.2.2.2.1 143 = some (2, 172) := by rw [zm_175]; decide +kernel
theorem zl_175_278 : zzGet zzML (zzM 175).2.2.2.2.1 278 = some (2, 174) := by rw [zm_175]; decide +kernel
theorem zm_176 : zzM 176 = (yX7_queasyOf, cX7_queasyOf, 7, (some .int), 7, 3, 1, zzc_176) := rfl
theorem zr_176 : (zzM 176).2.2.2.1 = (some .int) := by rw [zm_176]
theorem zo_176_0 : zzOp 176 0 = some (.aload_n 0, 1) := by unfold zzOp; rw [zm_176]; decide +kernel
theorem zo_176_1 : zzOp 176 1 = some (.getfield 26, 3) := by unfold zzOp; rw [zm_176]; decide +kernel
theorem zo_176_4 : zzOp 176 4 = some (.iload_n 1, 1) := by unfold zzOp; rw [zm_176]; decide +kernel
theorem zo_176_5 : zzOp 176 5 = some (.iaload, 1) := by unfold zzOp; rw [zm_176]; decide +kernel
theorem zo_176_6 : zzOp 176 6 = some (.istore_n 3, 1) := by unfold zzOp; rw [zm_176]; decide +kernel
theorem zo_176_7 : zzOp 176 7 = some (.aload_n 0, 1) := by unfold zzOp; rw [zm_176]; decide +kernel
theorem zo_176_8 : zzOp 176 8 = some (.getfield 35, 3) := by unfold zzOp; rw [zm_176]; decide +kernel
theorem zo_176_11 : zzOp 176 11 = some (.iload_n 1, 1) := by unfold zzOp; rw [zm_176]; decide +kernel
theorem zo_176_12 : zzOp 176 12 = some (.iaload, 1) := by unfold zzOp; rw [zm_176]; decide +kernel
theorem zo_176_13 : zzOp 176 13 = some (.iconst (-1), 1) := by unfold zzOp; rw [zm_176]; decide +kernel
theorem zo_176_14 : zzOp 176 14 = some (.if_icmp .eq 8, 3) := by unfold zzOp; rw [zm_176]; decide +kernel
theorem zo_176_17 : zzOp 176 17 = some (.iload_n 3, 1) := by unfold zzOp; rw [zm_176]; decide +kernel
theorem zo_176_18 : zzOp 176 18 = some (.iconst 5, 1) := by unfold zzOp; rw [zm_176]; decide +kernel
theorem zo_176_19 : zzOp 176 19 = some (.if_icmp .ne 5, 3) := by unfold zzOp; rw [zm_176]; decide +kernel
theorem zo_176_22 : zzOp 176 22 = some (.iconst 0, 1) := by unfold zzOp; rw [zm_176]; decide +kernel
theorem zo_176_23 : zzOp 176 23 = some (.ireturn, 1) := by unfold zzOp; rw [zm_176]; decide +kernel
theorem zo_176_24 : zzOp 176 24 = some (.aload_n 0, 1) := by unfold zzOp; rw [zm_176]; decide +kernel
theorem zo_176_25 : zzOp 176 25 = some (.getfield 35, 3) := by unfold zzOp; rw [zm_176]; decide +kernel
theorem zo_176_28 : zzOp 176 28 = some (.iload_n 1, 1) := by unfold zzOp; rw [zm_176]; decide +kernel
theorem zo_176_29 : zzOp 176 29 = some (.iaload, 1) := by unfold zzOp; rw [zm_176]; decide +kernel
theorem zo_176_30 : zzOp 176 30 = some (.iconst 4, 1) := by unfold zzOp; rw [zm_176]; decide +kernel
theorem zo_176_31 : zzOp 176 31 = some (.idiv, 1) := by unfold zzOp; rw [zm_176]; decide +kernel
theorem zo_176_32 : zzOp 176 32 = some (.istore 4, 2) := by unfold zzOp; rw [zm_176]; decide +kernel
theorem zo_176_34 : zzOp 176 34 = some (.aload_n 0, 1) := by unfold zzOp; rw [zm_176]; decide +kernel
theorem zo_176_35 : zzOp 176 35 = some (.iconst 1, 1) := by unfold zzOp; rw [zm_176]; decide +kernel
theorem zo_176_36 : zzOp 176 36 = some (.iload_n 1, 1) := by unfold zzOp; rw [zm_176]; decide +kernel
theorem zo_176_37 : zzOp 176 37 = some (.iload_n 2, 1) := by unfold zzOp; rw [zm_176]; decide +kernel
theorem zo_176_38 : zzOp 176 38 = some (.invokevirtual 278, 3) := by unfold zzOp; rw [zm_176]; decide +kernel
theorem zo_176_41 : zzOp 176 41 = some (.istore 5, 2) := by unfold zzOp; rw [zm_176]; decide +kernel
theorem zo_176_43 : zzOp 176 43 = some (.iload_n 3, 1) := by unfold zzOp; rw [zm_176]; decide +kernel
theorem zo_176_44 : zzOp 176 44 = some (.iconst 2, 1) := by unfold zzOp; rw [zm_176]; decide +kernel
theorem zo_176_45 : zzOp 176 45 = some (.if_icmp .ne 13, 3) := by unfold zzOp; rw [zm_176]; decide +kernel
theorem zo_176_48 : zzOp 176 48 = some (.iconst 2, 1) := by unfold zzOp; rw [zm_176]; decide +kernel
theorem zo_176_49 : zzOp 176 49 = some (.iload 5, 2) := by unfold zzOp; rw [zm_176]; decide +kernel
theorem zo_176_51 : zzOp 176 51 = some (.imul, 1) := by unfold zzOp; rw [zm_176]; decide +kernel
theorem zo_176_52 : zzOp 176 52 = some (.iload 4, 2) := by unfold zzOp; rw [zm_176]; decide +kernel
theorem zo_176_54 : zzOp 176 54 = some (.iadd, 1) := by unfold zzOp; rw [zm_176]; decide +kernel
theorem zo_176_55 : zzOp 176 55 = some (.goto 37, 3) := by unfold zzOp; rw [zm_176]; decide +kernel
theorem zo_176_58 : zzOp 176 58 = some (.iload_n 3, 1) := by unfold zzOp; rw [zm_176]; decide +kernel
theorem zo_176_59 : zzOp 176 59 = some (.iconst 4, 1) := by unfold zzOp; rw [zm_176]; decide +kernel
theorem zo_176_60 : zzOp 176 60 = some (.if_icmp .ne 15, 3) := by unfold zzOp; rw [zm_176]; decide +kernel
theorem zo_176_63 : zzOp 176 63 = some (.iconst 2, 1) := by unfold zzOp; rw [zm_176]; decide +kernel
theorem zo_176_64 : zzOp 176 64 = some (.iload 5, 2) := by unfold zzOp; rw [zm_176]; decide +kernel
theorem zo_176_66 : zzOp 176 66 = some (.imul, 1) := by unfold zzOp; rw [zm_176]; decide +kernel
theorem zo_176_67 : zzOp 176 67 = some (.iload 4, 2) := by unfold zzOp; rw [zm_176]; decide +kernel
theorem zo_176_69 : zzOp 176 69 = some (.iadd, 1) := by unfold zzOp; rw [zm_176]; decide +kernel
theorem zo_176_70 : zzOp 176 70 = some (.iconst 2, 1) := by unfold zzOp; rw [zm_176]; decide +kernel
theorem zo_176_71 : zzOp 176 71 = some (.idiv, 1) := by unfold zzOp; rw [zm_176]; decide +kernel
theorem zo_176_72 : zzOp 176 72 = some (.goto 20, 3) := by unfold zzOp; rw [zm_176]; decide +kernel
theorem zo_176_75 : zzOp 176 75 = some (.iload_n 3, 1) := by unfold zzOp; rw [zm_176]; decide +kernel
theorem zo_176_76 : zzOp 176 76 = some (.iconst 3, 1) := by unfold zzOp; rw [zm_176]; decide +kernel
theorem zo_176_77 : zzOp 176 77 = some (.if_icmp .ne 13, 3) := by unfold zzOp; rw [zm_176]; decide +kernel
theorem zo_176_80 : zzOp 176 80 = some (.iload 4, 2) := by unfold zzOp; rw [zm_176]; decide +kernel
theorem zo_176_82 : zzOp 176 82 = some (.iconst 5, 1) := by unfold zzOp; rw [zm_176]; decide +kernel
theorem zo_176_83 : zzOp 176 83 = some (.if_icmp .ne 7, 3) := by unfold zzOp; rw [zm_176]; decide +kernel
theorem zo_176_86 : zzOp 176 86 = some (.iconst 0, 1) := by unfold zzOp; rw [zm_176]; decide +kernel
theorem zo_176_87 : zzOp 176 87 = some (.goto 5, 3) := by unfold zzOp; rw [zm_176]; decide +kernel
theorem zo_176_90 : zzOp 176 90 = some (.iload 5, 2) := by unfold zzOp; rw [zm_176]; decide +kernel
theorem zo_176_92 : zzOp 176 92 = some (.istore 6, 2) := by unfold zzOp; rw [zm_176]; decide +kernel
theorem zo_176_94 : zzOp 176 94 = some (.iload 6, 2) := by unfold zzOp; rw [zm_176]; decide +kernel
theorem zo_176_96 : zzOp 176 96 = some (.iconst 0, 1) := by unfold zzOp; rw [zm_176]; decide +kernel
theorem zo_176_97 : zzOp 176 97 = some (.bipush 99, 2) := by unfold zzOp; rw [zm_176]; decide +kernel
theorem zo_176_99 : zzOp 176 99 = some (.invokestatic 274, 3) := by unfold zzOp; rw [zm_176]; decide +kernel
theorem zo_176_102 : zzOp 176 102 = some (.ireturn, 1) := by unfold zzOp; rw [zm_176]; decide +kernel
theorem zf_176_26 : zzGet zzFL (zzM 176).2.2.2.2.1 26 = some (7, 9) := by rw [zm_176]; decide +kernel
theorem zf_176_35 : zzGet zzFL (zzM 176).2.2.2.2.1 35 = some (7, 12) := by rw [zm_176]; decide +kernel
theorem zl_176_274 : zzGet zzML (zzM 176).2.2.2.2.1 274 = some (0, 137) := by rw [zm_176]; decide +kernel
theorem zl_176_278 : zzGet zzML (zzM 176).2.2.2.2.1 278 = some (2, 174) := by rw [zm_176]; decide +kernel
theorem zm_177 : zzM 177 = (yX7_gladOf, cX7_gladOf, 7, (some .int), 7, 2, 1, zzc_177) := rfl
theorem zr_177 : (zzM 177).2.2.2.1 = (some .int) := by rw [zm_177]
theorem zo_177_0 : zzOp 177 0 = some (.aload_n 0, 1) := by unfold zzOp; rw [zm_177]; decide +kernel
theorem zo_177_1 : zzOp 177 1 = some (.getfield 26, 3) := by unfold zzOp; rw [zm_177]; decide +kernel
theorem zo_177_4 : zzOp 177 4 = some (.iload_n 1, 1) := by unfold zzOp; rw [zm_177]; decide +kernel
theorem zo_177_5 : zzOp 177 5 = some (.iaload, 1) := by unfold zzOp; rw [zm_177]; decide +kernel
theorem zo_177_6 : zzOp 177 6 = some (.istore_n 2, 1) := by unfold zzOp; rw [zm_177]; decide +kernel
theorem zo_177_7 : zzOp 177 7 = some (.aload_n 0, 1) := by unfold zzOp; rw [zm_177]; decide +kernel
theorem zo_177_8 : zzOp 177 8 = some (.getfield 35, 3) := by unfold zzOp; rw [zm_177]; decide +kernel
theorem zo_177_11 : zzOp 177 11 = some (.iload_n 1, 1) := by unfold zzOp; rw [zm_177]; decide +kernel
theorem zo_177_12 : zzOp 177 12 = some (.iaload, 1) := by unfold zzOp; rw [zm_177]; decide +kernel
theorem zo_177_13 : zzOp 177 13 = some (.iconst (-1), 1) := by unfold zzOp; rw [zm_177]; decide +kernel
theorem zo_177_14 : zzOp 177 14 = some (.if_icmp .ne 5, 3) := by unfold zzOp; rw [zm_177]; decide +kernel
theorem zo_177_17 : zzOp 177 17 = some (.iconst 0, 1) := by unfold zzOp; rw [zm_177]; decide +kernel
theorem zo_177_18 : zzOp 177 18 = some (.ireturn, 1) := by unfold zzOp; rw [zm_177]; decide +kernel
theorem zo_177_19 : zzOp 177 19 = some (.iload_n 2, 1) := by unfold zzOp; rw [zm_177]; decide +kernel
theorem zo_177_20 : zzOp 177 20 = some (.iconst 4, 1) := by unfold zzOp; rw [zm_177]; decide +kernel
theorem zo_177_21 : zzOp 177 21 = some (.if_icmp .ne 5, 3) := by unfold zzOp; rw [zm_177]; decide +kernel
theorem zo_177_24 : zzOp 177 24 = some (.iconst 3, 1) := by unfold zzOp; rw [zm_177]; decide +kernel
theorem zo_177_25 : zzOp 177 25 = some (.ireturn, 1) := by unfold zzOp; rw [zm_177]; decide +kernel
theorem zo_177_26 : zzOp 177 26 = some (.aload_n 0, 1) := by unfold zzOp; rw [zm_177]; decide +kernel
theorem zo_177_27 : zzOp 177 27 = some (.getfield 35, 3) := by unfold zzOp; rw [zm_177]; decide +kernel
theorem zo_177_30 : zzOp 177 30 = some (.iload_n 1, 1) := by unfold zzOp; rw [zm_177]; decide +kernel
theorem zo_177_31 : zzOp 177 31 = some (.iaload, 1) := by unfold zzOp; rw [zm_177]; decide +kernel
theorem zo_177_32 : zzOp 177 32 = some (.iconst 4, 1) := by unfold zzOp; rw [zm_177]; decide +kernel
theorem zo_177_33 : zzOp 177 33 = some (.idiv, 1) := by unfold zzOp; rw [zm_177]; decide +kernel
theorem zo_177_34 : zzOp 177 34 = some (.istore_n 3, 1) := by unfold zzOp; rw [zm_177]; decide +kernel
theorem zo_177_35 : zzOp 177 35 = some (.aload_n 0, 1) := by unfold zzOp; rw [zm_177]; decide +kernel
theorem zo_177_36 : zzOp 177 36 = some (.iconst 2, 1) := by unfold zzOp; rw [zm_177]; decide +kernel
theorem zo_177_37 : zzOp 177 37 = some (.iload_n 1, 1) := by unfold zzOp; rw [zm_177]; decide +kernel
theorem zo_177_38 : zzOp 177 38 = some (.aload_n 0, 1) := by unfold zzOp; rw [zm_177]; decide +kernel
theorem zo_177_39 : zzOp 177 39 = some (.getfield 118, 3) := by unfold zzOp; rw [zm_177]; decide +kernel
theorem zo_177_42 : zzOp 177 42 = some (.invokevirtual 278, 3) := by unfold zzOp; rw [zm_177]; decide +kernel
theorem zo_177_45 : zzOp 177 45 = some (.istore 4, 2) := by unfold zzOp; rw [zm_177]; decide +kernel
theorem zo_177_47 : zzOp 177 47 = some (.aload_n 0, 1) := by unfold zzOp; rw [zm_177]; decide +kernel
theorem zo_177_48 : zzOp 177 48 = some (.iload_n 1, 1) := by unfold zzOp; rw [zm_177]; decide +kernel
theorem zo_177_49 : zzOp 177 49 = some (.invokevirtual 271, 3) := by unfold zzOp; rw [zm_177]; decide +kernel
theorem zo_177_52 : zzOp 177 52 = some (.ifCond .eq 11, 3) := by unfold zzOp; rw [zm_177]; decide +kernel
theorem zo_177_55 : zzOp 177 55 = some (.iload 4, 2) := by unfold zzOp; rw [zm_177]; decide +kernel
theorem zo_177_57 : zzOp 177 57 = some (.bipush 10, 2) := by unfold zzOp; rw [zm_177]; decide +kernel
theorem zo_177_59 : zzOp 177 59 = some (.iadd, 1) := by unfold zzOp; rw [zm_177]; decide +kernel
theorem zo_177_60 : zzOp 177 60 = some (.goto 5, 3) := by unfold zzOp; rw [zm_177]; decide +kernel
theorem zo_177_63 : zzOp 177 63 = some (.iload 4, 2) := by unfold zzOp; rw [zm_177]; decide +kernel
theorem zo_177_65 : zzOp 177 65 = some (.istore 5, 2) := by unfold zzOp; rw [zm_177]; decide +kernel
theorem zo_177_67 : zzOp 177 67 = some (.iload_n 3, 1) := by unfold zzOp; rw [zm_177]; decide +kernel
theorem zo_177_68 : zzOp 177 68 = some (.iconst 5, 1) := by unfold zzOp; rw [zm_177]; decide +kernel
theorem zo_177_69 : zzOp 177 69 = some (.if_icmp .ne 10, 3) := by unfold zzOp; rw [zm_177]; decide +kernel
theorem zo_177_72 : zzOp 177 72 = some (.iload 5, 2) := by unfold zzOp; rw [zm_177]; decide +kernel
theorem zo_177_74 : zzOp 177 74 = some (.iconst 5, 1) := by unfold zzOp; rw [zm_177]; decide +kernel
theorem zo_177_75 : zzOp 177 75 = some (.iadd, 1) := by unfold zzOp; rw [zm_177]; decide +kernel
theorem zo_177_76 : zzOp 177 76 = some (.goto 5, 3) := by unfold zzOp; rw [zm_177]; decide +kernel
theorem zo_177_79 : zzOp 177 79 = some (.iload 5, 2) := by unfold zzOp; rw [zm_177]; decide +kernel
theorem zo_177_81 : zzOp 177 81 = some (.istore 6, 2) := by unfold zzOp; rw [zm_177]; decide +kernel
theorem zo_177_83 : zzOp 177 83 = some (.iload_n 2, 1) := by unfold zzOp; rw [zm_177]; decide +kernel
theorem zo_177_84 : zzOp 177 84 = some (.iconst 5, 1) := by unfold zzOp; rw [zm_177]; decide +kernel
theorem zo_177_85 : zzOp 177 85 = some (.if_icmp .ne 9, 3) := by unfold zzOp; rw [zm_177]; decide +kernel
theorem zo_177_88 : zzOp 177 88 = some (.iload 4, 2) := by unfold zzOp; rw [zm_177]; decide +kernel
theorem zo_177_90 : zzOp 177 90 = some (.ineg, 1) := by unfold zzOp; rw [zm_177]; decide +kernel
theorem zo_177_91 : zzOp 177 91 = some (.goto 39, 3) := by unfold zzOp; rw [zm_177]; decide +kernel
theorem zo_177_94 : zzOp 177 94 = some (.iload_n 2, 1) := by unfold zzOp; rw [zm_177]; decide +kernel
theorem zo_177_95 : zzOp 177 95 = some (.iconst 1, 1) := by unfold zzOp; rw [zm_177]; decide +kernel
theorem zo_177_96 : zzOp 177 96 = some (.if_icmp .ne 8, 3) := by unfold zzOp; rw [zm_177]; decide +kernel
theorem zo_177_99 : zzOp 177 99 = some (.iload 6, 2) := by unfold zzOp; rw [zm_177]; decide +kernel
theorem zo_177_101 : zzOp 177 101 = some (.goto 29, 3) := by unfold zzOp; rw [zm_177]; decide +kernel
theorem zo_177_104 : zzOp 177 104 = some (.iload_n 2, 1) := by unfold zzOp; rw [zm_177]; decide +kernel
theorem zo_177_105 : zzOp 177 105 = some (.iconst 3, 1) := by unfold zzOp; rw [zm_177]; decide +kernel
theorem zo_177_106 : zzOp 177 106 = some (.if_icmp .ne 10, 3) := by unfold zzOp; rw [zm_177]; decide +kernel
theorem zo_177_109 : zzOp 177 109 = some (.iconst 2, 1) := by unfold zzOp; rw [zm_177]; decide +kernel
theorem zo_177_110 : zzOp 177 110 = some (.iload 6, 2) := by unfold zzOp; rw [zm_177]; decide +kernel
theorem zo_177_112 : zzOp 177 112 = some (.imul, 1) := by unfold zzOp; rw [zm_177]; decide +kernel
theorem zo_177_113 : zzOp 177 113 = some (.goto 17, 3) := by unfold zzOp; rw [zm_177]; decide +kernel
theorem zo_177_116 : zzOp 177 116 = some (.iload_n 2, 1) := by unfold zzOp; rw [zm_177]; decide +kernel
theorem zo_177_117 : zzOp 177 117 = some (.iconst 2, 1) := by unfold zzOp; rw [zm_177]; decide +kernel
theorem zo_177_118 : zzOp 177 118 = some (.if_icmp .ne 10, 3) := by unfold zzOp; rw [zm_177]; decide +kernel
theorem zo_177_121 : zzOp 177 121 = some (.iload 5, 2) := by unfold zzOp; rw [zm_177]; decide +kernel
theorem zo_177_123 : zzOp 177 123 = some (.iload_n 3, 1) := by unfold zzOp; rw [zm_177]; decide +kernel
theorem zo_177_124 : zzOp 177 124 = some (.isub, 1) := by unfold zzOp; rw [zm_177]; decide +kernel
theorem zo_177_125 : zzOp 177 125 = some (.goto 5, 3) := by unfold zzOp; rw [zm_177]; decide +kernel
theorem zo_177_128 : zzOp 177 128 = some (.iload 5, 2) := by unfold zzOp; rw [zm_177]; decide +kernel
theorem zo_177_130 : zzOp 177 130 = some (.ireturn, 1) := by unfold zzOp; rw [zm_177]; decide +kernel
theorem zf_177_26 : zzGet zzFL (zzM 177).2.2.2.2.1 26 = some (7, 9) := by rw [zm_177]; decide +kernel
theorem zf_177_35 : zzGet zzFL (zzM 177).2.2.2.2.1 35 = some (7, 12) := by rw [zm_177]; decide +kernel
theorem zf_177_118 : zzGet zzFL (zzM 177).2.2.2.2.1 118 = some (7, 7) := by rw [zm_177]; decide +kernel
theorem zl_177_271 : zzGet zzML (zzM 177).2.2.2.2.1 271 = some (2, 173) := by rw [zm_177]; decide +kernel
theorem zl_177_278 : zzGet zzML (zzM 177).2.2.2.2.1 278 = some (2, 174) := by rw [zm_177]; decide +kernel
theorem zm_178 : zzM 178 = (yX7_din, cX7_din, 3, (some .int), 7, 1, 1, zzc_178) := rfl
theorem zr_178 : (zzM 178).2.2.2.1 = (some .int) := by rw [zm_178]
theorem zo_178_0 : zzOp 178 0 = some (.iconst 0, 1) := by unfold zzOp; rw [zm_178]; decide +kernel
theorem zo_178_1 : zzOp 178 1 = some (.istore_n 1, 1) := by unfold zzOp; rw [zm_178]; decide +kernel
theorem zo_178_2 : zzOp 178 2 = some (.iconst 0, 1) := by unfold zzOp; rw [zm_178]; decide +kernel
theorem zo_178_3 : zzOp 178 3 = some (.istore_n 2, 1) := by unfold zzOp; rw [zm_178]; decide +kernel
theorem zo_178_4 : zzOp 178 4 = some (.iload_n 2, 1) := by unfold zzOp; rw [zm_178]; decide +kernel
theorem zo_178_5 : zzOp 178 5 = some (.aload_n 0, 1) := by unfold zzOp; rw [zm_178]; decide +kernel
theorem zo_178_6 : zzOp 178 6 = some (.getfield 85, 3) := by unfold zzOp; rw [zm_178]; decide +kernel
theorem zo_178_9 : zzOp 178 9 = some (.if_icmp .ge 17, 3) := by unfold zzOp; rw [zm_178]; decide +kernel
theorem zo_178_12 : zzOp 178 12 = some (.iload_n 1, 1) := by unfold zzOp; rw [zm_178]; decide +kernel
theorem zo_178_13 : zzOp 178 13 = some (.aload_n 0, 1) := by unfold zzOp; rw [zm_178]; decide +kernel
theorem zo_178_14 : zzOp 178 14 = some (.iload_n 2, 1) := by unfold zzOp; rw [zm_178]; decide +kernel
theorem zo_178_15 : zzOp 178 15 = some (.invokevirtual 133, 3) := by unfold zzOp; rw [zm_178]; decide +kernel
theorem zo_178_18 : zzOp 178 18 = some (.iadd, 1) := by unfold zzOp; rw [zm_178]; decide +kernel
theorem zo_178_19 : zzOp 178 19 = some (.istore_n 1, 1) := by unfold zzOp; rw [zm_178]; decide +kernel
theorem zo_178_20 : zzOp 178 20 = some (.iinc 2 1, 3) := by unfold zzOp; rw [zm_178]; decide +kernel
theorem zo_178_23 : zzOp 178 23 = some (.goto (-19), 3) := by unfold zzOp; rw [zm_178]; decide +kernel
theorem zo_178_26 : zzOp 178 26 = some (.iload_n 1, 1) := by unfold zzOp; rw [zm_178]; decide +kernel
theorem zo_178_27 : zzOp 178 27 = some (.ireturn, 1) := by unfold zzOp; rw [zm_178]; decide +kernel
theorem zf_178_85 : zzGet zzFL (zzM 178).2.2.2.2.1 85 = some (7, 14) := by rw [zm_178]; decide +kernel
theorem zl_178_133 : zzGet zzML (zzM 178).2.2.2.2.1 133 = some (2, 175) := by rw [zm_178]; decide +kernel
theorem zm_179 : zzM 179 = (yX7_joy, cX7_joy, 3, (some .int), 7, 1, 1, zzc_179) := rfl
theorem zr_179 : (zzM 179).2.2.2.1 = (some .int) := by rw [zm_179]
theorem zo_179_0 : zzOp 179 0 = some (.iconst 0, 1) := by unfold zzOp; rw [zm_179]; decide +kernel
theorem zo_179_1 : zzOp 179 1 = some (.istore_n 1, 1) := by unfold zzOp; rw [zm_179]; decide +kernel
theorem zo_179_2 : zzOp 179 2 = some (.iconst 0, 1) := by unfold zzOp; rw [zm_179]; decide +kernel
theorem zo_179_3 : zzOp 179 3 = some (.istore_n 2, 1) := by unfold zzOp; rw [zm_179]; decide +kernel
theorem zo_179_4 : zzOp 179 4 = some (.iload_n 2, 1) := by unfold zzOp; rw [zm_179]; decide +kernel
theorem zo_179_5 : zzOp 179 5 = some (.aload_n 0, 1) := by unfold zzOp; rw [zm_179]; decide +kernel
theorem zo_179_6 : zzOp 179 6 = some (.getfield 85, 3) := by unfold zzOp; rw [zm_179]; decide +kernel
theorem zo_179_9 : zzOp 179 9 = some (.if_icmp .ge 17, 3) := by unfold zzOp; rw [zm_179]; decide +kernel
theorem zo_179_12 : zzOp 179 12 = some (.iload_n 1, 1) := by unfold zzOp; rw [zm_179]; decide +kernel
theorem zo_179_13 : zzOp 179 13 = some (.aload_n 0, 1) := by unfold zzOp; rw [zm_179]; decide +kernel
theorem zo_179_14 : zzOp 179 14 = some (.iload_n 2, 1) := by unfold zzOp; rw [zm_179]; decide +kernel
theorem zo_179_15 : zzOp 179 15 = some (.invokevirtual 281, 3) := by unfold zzOp; rw [zm_179]; decide +kernel
theorem zo_179_18 : zzOp 179 18 = some (.iadd, 1) := by unfold zzOp; rw [zm_179]; decide +kernel
theorem zo_179_19 : zzOp 179 19 = some (.istore_n 1, 1) := by unfold zzOp; rw [zm_179]; decide +kernel
theorem zo_179_20 : zzOp 179 20 = some (.iinc 2 1, 3) := by unfold zzOp; rw [zm_179]; decide +kernel
theorem zo_179_23 : zzOp 179 23 = some (.goto (-19), 3) := by unfold zzOp; rw [zm_179]; decide +kernel
theorem zo_179_26 : zzOp 179 26 = some (.iload_n 1, 1) := by unfold zzOp; rw [zm_179]; decide +kernel
theorem zo_179_27 : zzOp 179 27 = some (.ireturn, 1) := by unfold zzOp; rw [zm_179]; decide +kernel
theorem zf_179_85 : zzGet zzFL (zzM 179).2.2.2.2.1 85 = some (7, 14) := by rw [zm_179]; decide +kernel
theorem zl_179_281 : zzGet zzML (zzM 179).2.2.2.2.1 281 = some (2, 177) := by rw [zm_179]; decide +kernel
theorem zm_180 : zzM 180 = (yX7_all, cX7_all, 4, (some .int), 7, 2, 1, zzc_180) := rfl
theorem zr_180 : (zzM 180).2.2.2.1 = (some .int) := by rw [zm_180]
theorem zo_180_0 : zzOp 180 0 = some (.iload_n 1, 1) := by unfold zzOp; rw [zm_180]; decide +kernel
theorem zo_180_1 : zzOp 180 1 = some (.i2l, 1) := by unfold zzOp; rw [zm_180]; decide +kernel
theorem zo_180_2 : zzOp 180 2 = some (.lconst 0, 1) := by unfold zzOp; rw [zm_180]; decide +kernel
theorem zo_180_3 : zzOp 180 3 = some (.ldc2_w 284, 3) := by unfold zzOp; rw [zm_180]; decide +kernel
theorem zo_180_6 : zzOp 180 6 = some (.invokestatic 88, 3) := by unfold zzOp; rw [zm_180]; decide +kernel
theorem zo_180_9 : zzOp 180 9 = some (.ifCond .ne 7, 3) := by unfold zzOp; rw [zm_180]; decide +kernel
theorem zo_180_12 : zzOp 180 12 = some (.ldc_w 286, 3) := by unfold zzOp; rw [zm_180]; decide +kernel
theorem zo_180_15 : zzOp 180 15 = some (.ireturn, 1) := by unfold zzOp; rw [zm_180]; decide +kernel
theorem zo_180_16 : zzOp 180 16 = some (.iload_n 1, 1) := by unfold zzOp; rw [zm_180]; decide +kernel
theorem zo_180_17 : zzOp 180 17 = some (.iconst 2, 1) := by unfold zzOp; rw [zm_180]; decide +kernel
theorem zo_180_18 : zzOp 180 18 = some (.if_icmp .ge 19, 3) := by unfold zzOp; rw [zm_180]; decide +kernel
theorem zo_180_21 : zzOp 180 21 = some (.iload_n 1, 1) := by unfold zzOp; rw [zm_180]; decide +kernel
theorem zo_180_22 : zzOp 180 22 = some (.ifCond .ne 10, 3) := by unfold zzOp; rw [zm_180]; decide +kernel
theorem zo_180_25 : zzOp 180 25 = some (.aload_n 0, 1) := by unfold zzOp; rw [zm_180]; decide +kernel
theorem zo_180_26 : zzOp 180 26 = some (.invokevirtual 287, 3) := by unfold zzOp; rw [zm_180]; decide +kernel
theorem zo_180_29 : zzOp 180 29 = some (.goto 7, 3) := by unfold zzOp; rw [zm_180]; decide +kernel
theorem zo_180_32 : zzOp 180 32 = some (.aload_n 0, 1) := by unfold zzOp; rw [zm_180]; decide +kernel
theorem zo_180_33 : zzOp 180 33 = some (.invokevirtual 290, 3) := by unfold zzOp; rw [zm_180]; decide +kernel
theorem zo_180_36 : zzOp 180 36 = some (.ireturn, 1) := by unfold zzOp; rw [zm_180]; decide +kernel
theorem zo_180_37 : zzOp 180 37 = some (.iconst 0, 1) := by unfold zzOp; rw [zm_180]; decide +kernel
theorem zo_180_38 : zzOp 180 38 = some (.istore_n 2, 1) := by unfold zzOp; rw [zm_180]; decide +kernel
theorem zo_180_39 : zzOp 180 39 = some (.iconst 0, 1) := by unfold zzOp; rw [zm_180]; decide +kernel
theorem zo_180_40 : zzOp 180 40 = some (.istore_n 3, 1) := by unfold zzOp; rw [zm_180]; decide +kernel
theorem zo_180_41 : zzOp 180 41 = some (.iload_n 3, 1) := by unfold zzOp; rw [zm_180]; decide +kernel
theorem zo_180_42 : zzOp 180 42 = some (.aload_n 0, 1) := by unfold zzOp; rw [zm_180]; decide +kernel
theorem zo_180_43 : zzOp 180 43 = some (.getfield 85, 3) := by unfold zzOp; rw [zm_180]; decide +kernel
theorem zo_180_46 : zzOp 180 46 = some (.if_icmp .ge 35, 3) := by unfold zzOp; rw [zm_180]; decide +kernel
theorem zo_180_49 : zzOp 180 49 = some (.iload_n 2, 1) := by unfold zzOp; rw [zm_180]; decide +kernel
theorem zo_180_50 : zzOp 180 50 = some (.aload_n 0, 1) := by unfold zzOp; rw [zm_180]; decide +kernel
theorem zo_180_51 : zzOp 180 51 = some (.getfield 35, 3) := by unfold zzOp; rw [zm_180]; decide +kernel
theorem zo_180_54 : zzOp 180 54 = some (.iload_n 3, 1) := by unfold zzOp; rw [zm_180]; decide +kernel
theorem zo_180_55 : zzOp 180 55 = some (.iaload, 1) := by unfold zzOp; rw [zm_180]; decide +kernel
theorem zo_180_56 : zzOp 180 56 = some (.iconst (-1), 1) := by unfold zzOp; rw [zm_180]; decide +kernel
theorem zo_180_57 : zzOp 180 57 = some (.if_icmp .eq 15, 3) := by unfold zzOp; rw [zm_180]; decide +kernel
theorem zo_180_60 : zzOp 180 60 = some (.aload_n 0, 1) := by unfold zzOp; rw [zm_180]; decide +kernel
theorem zo_180_61 : zzOp 180 61 = some (.iload_n 3, 1) := by unfold zzOp; rw [zm_180]; decide +kernel
theorem zo_180_62 : zzOp 180 62 = some (.invokevirtual 140, 3) := by unfold zzOp; rw [zm_180]; decide +kernel
theorem zo_180_65 : zzOp 180 65 = some (.ifCond .ne 7, 3) := by unfold zzOp; rw [zm_180]; decide +kernel
theorem zo_180_68 : zzOp 180 68 = some (.iconst 1, 1) := by unfold zzOp; rw [zm_180]; decide +kernel
theorem zo_180_69 : zzOp 180 69 = some (.goto 4, 3) := by unfold zzOp; rw [zm_180]; decide +kernel
theorem zo_180_72 : zzOp 180 72 = some (.iconst 0, 1) := by unfold zzOp; rw [zm_180]; decide +kernel
theorem zo_180_73 : zzOp 180 73 = some (.iadd, 1) := by unfold zzOp; rw [zm_180]; decide +kernel
theorem zo_180_74 : zzOp 180 74 = some (.istore_n 2, 1) := by unfold zzOp; rw [zm_180]; decide +kernel
theorem zo_180_75 : zzOp 180 75 = some (.iinc 3 1, 3) := by unfold zzOp; rw [zm_180]; decide +kernel
theorem zo_180_78 : zzOp 180 78 = some (.goto (-37), 3) := by unfold zzOp; rw [zm_180]; decide +kernel
theorem zo_180_81 : zzOp 180 81 = some (.iload_n 2, 1) := by unfold zzOp; rw [zm_180]; decide +kernel
theorem zo_180_82 : zzOp 180 82 = some (.ireturn, 1) := by unfold zzOp; rw [zm_180]; decide +kernel
theorem zf_180_35 : zzGet zzFL (zzM 180).2.2.2.2.1 35 = some (7, 12) := by rw [zm_180]; decide +kernel
theorem zf_180_85 : zzGet zzFL (zzM 180).2.2.2.2.1 85 = some (7, 14) := by rw [zm_180]; decide +kernel
theorem zl_180_88 : zzGet zzML (zzM 180).2.2.2.2.1 88 = some (0, 136) := by rw [zm_180]; decide +kernel
theorem zl_180_140 : zzGet zzML (zzM 180).2.2.2.2.1 140 = some (2, 170) := by rw [zm_180]; decide +kernel
theorem zl_180_287 : zzGet zzML (zzM 180).2.2.2.2.1 287 = some (2, 178) := by rw [zm_180]; decide +kernel
theorem zl_180_290 : zzGet zzML (zzM 180).2.2.2.2.1 290 = some (2, 179) := by rw [zm_180]; decide +kernel
theorem zc_180_284 : zzGet zzKL (zzM 180).2.2.2.2.1 284 = some (2) := by rw [zm_180]; decide +kernel
theorem zc_180_286 : zzGet zzKI (zzM 180).2.2.2.2.1 286 = some (-100000) := by rw [zm_180]; decide +kernel
theorem zc_180_286n : zzGet zzKS (zzM 180).2.2.2.2.1 286 = none := by rw [zm_180]; decide +kernel
theorem zm_181 : zzM 181 = (yX7_rides, cX7_rides, 5, none, 7, 3, 1, zzc_181) := rfl
theorem zr_181 : (zzM 181).2.2.2.1 = none := by rw [zm_181]
theorem zo_181_0 : zzOp 181 0 = some (.aload_n 0, 1) := by unfold zzOp; rw [zm_181]; decide +kernel
theorem zo_181_1 : zzOp 181 1 = some (.iconst 0, 1) := by unfold zzOp; rw [zm_181]; decide +kernel
theorem zo_181_2 : zzOp 181 2 = some (.putfield 293, 3) := by unfold zzOp; rw [zm_181]; decide +kernel
theorem zo_181_5 : zzOp 181 5 = some (.aload_n 0, 1) := by unfold zzOp; rw [zm_181]; decide +kernel
theorem zo_181_6 : zzOp 181 6 = some (.iconst (-1), 1) := by unfold zzOp; rw [zm_181]; decide +kernel
theorem zo_181_7 : zzOp 181 7 = some (.putfield 296, 3) := by unfold zzOp; rw [zm_181]; decide +kernel
theorem zo_181_10 : zzOp 181 10 = some (.iconst 0, 1) := by unfold zzOp; rw [zm_181]; decide +kernel
theorem zo_181_11 : zzOp 181 11 = some (.istore_n 3, 1) := by unfold zzOp; rw [zm_181]; decide +kernel
theorem zo_181_12 : zzOp 181 12 = some (.iload_n 3, 1) := by unfold zzOp; rw [zm_181]; decide +kernel
theorem zo_181_13 : zzOp 181 13 = some (.aload_n 0, 1) := by unfold zzOp; rw [zm_181]; decide +kernel
theorem zo_181_14 : zzOp 181 14 = some (.getfield 85, 3) := by unfold zzOp; rw [zm_181]; decide +kernel
theorem zo_181_17 : zzOp 181 17 = some (.if_icmp .ge 30, 3) := by unfold zzOp; rw [zm_181]; decide +kernel
theorem zo_181_20 : zzOp 181 20 = some (.aload_n 0, 1) := by unfold zzOp; rw [zm_181]; decide +kernel
theorem zo_181_21 : zzOp 181 21 = some (.getfield 41, 3) := by unfold zzOp; rw [zm_181]; decide +kernel
theorem zo_181_24 : zzOp 181 24 = some (.iload_n 3, 1) := by unfold zzOp; rw [zm_181]; decide +kernel
theorem zo_181_25 : zzOp 181 25 = some (.iconst 0, 1) := by unfold zzOp; rw [zm_181]; decide +kernel
theorem zo_181_26 : zzOp 181 26 = some (.iastore, 1) := by unfold zzOp; rw [zm_181]; decide +kernel
theorem zo_181_27 : zzOp 181 27 = some (.aload_n 0, 1) := by unfold zzOp; rw [zm_181]; decide +kernel
theorem zo_181_28 : zzOp 181 28 = some (.getfield 44, 3) := by unfold zzOp; rw [zm_181]; decide +kernel
theorem zo_181_31 : zzOp 181 31 = some (.iload_n 3, 1) := by unfold zzOp; rw [zm_181]; decide +kernel
theorem zo_181_32 : zzOp 181 32 = some (.iconst 0, 1) := by unfold zzOp; rw [zm_181]; decide +kernel
theorem zo_181_33 : zzOp 181 33 = some (.iastore, 1) := by unfold zzOp; rw [zm_181]; decide +kernel
theorem zo_181_34 : zzOp 181 34 = some (.aload_n 0, 1) := by unfold zzOp; rw [zm_181]; decide +kernel
theorem zo_181_35 : zzOp 181 35 = some (.getfield 47, 3) := by unfold zzOp; rw [zm_181]; decide +kernel
theorem zo_181_38 : zzOp 181 38 = some (.iload_n 3, 1) := by unfold zzOp; rw [zm_181]; decide +kernel
theorem zo_181_39 : zzOp 181 39 = some (.iconst (-1), 1) := by unfold zzOp; rw [zm_181]; decide +kernel
theorem zo_181_40 : zzOp 181 40 = some (.iastore, 1) := by unfold zzOp; rw [zm_181]; decide +kernel
theorem zo_181_41 : zzOp 181 41 = some (.iinc 3 1, 3) := by unfold zzOp; rw [zm_181]; decide +kernel
theorem zo_181_44 : zzOp 181 44 = some (.goto (-32), 3) := by unfold zzOp; rw [zm_181]; decide +kernel
theorem zo_181_47 : zzOp 181 47 = some (.iconst 0, 1) := by unfold zzOp; rw [zm_181]; decide +kernel
theorem zo_181_48 : zzOp 181 48 = some (.istore_n 3, 1) := by unfold zzOp; rw [zm_181]; decide +kernel
theorem zo_181_49 : zzOp 181 49 = some (.iload_n 3, 1) := by unfold zzOp; rw [zm_181]; decide +kernel
theorem zo_181_50 : zzOp 181 50 = some (.iload_n 1, 1) := by unfold zzOp; rw [zm_181]; decide +kernel
theorem zo_181_51 : zzOp 181 51 = some (.if_icmp .ge 173, 3) := by unfold zzOp; rw [zm_181]; decide +kernel
theorem zo_181_54 : zzOp 181 54 = some (.iconst 0, 1) := by unfold zzOp; rw [zm_181]; decide +kernel
theorem zo_181_55 : zzOp 181 55 = some (.istore 4, 2) := by unfold zzOp; rw [zm_181]; decide +kernel
theorem zo_181_57 : zzOp 181 57 = some (.iload 4, 2) := by unfold zzOp; rw [zm_181]; decide +kernel
theorem zo_181_59 : zzOp 181 59 = some (.aload_n 0, 1) := by unfold zzOp; rw [zm_181]; decide +kernel
theorem zo_181_60 : zzOp 181 60 = some (.getfield 85, 3) := by unfold zzOp; rw [zm_181]; decide +kernel
theorem zo_181_63 : zzOp 181 63 = some (.if_icmp .ge 124, 3) := by unfold zzOp; rw [zm_181]; decide +kernel
theorem zo_181_66 : zzOp 181 66 = some (.aload_n 0, 1) := by unfold zzOp; rw [zm_181]; decide +kernel
theorem zo_181_67 : zzOp 181 67 = some (.getfield 41, 3) := by unfold zzOp; rw [zm_181]; decide +kernel
theorem zo_181_70 : zzOp 181 70 = some (.iload 4, 2) := by unfold zzOp; rw [zm_181]; decide +kernel
theorem zo_181_72 : zzOp 181 72 = some (.dup2, 1) := by unfold zzOp; rw [zm_181]; decide +kernel
theorem zo_181_73 : zzOp 181 73 = some (.iaload, 1) := by unfold zzOp; rw [zm_181]; decide +kernel
theorem zo_181_74 : zzOp 181 74 = some (.aload_n 0, 1) := by unfold zzOp; rw [zm_181]; decide +kernel
theorem zo_181_75 : zzOp 181 75 = some (.iload 4, 2) := by unfold zzOp; rw [zm_181]; decide +kernel
theorem zo_181_77 : zzOp 181 77 = some (.aload_n 0, 1) := by unfold zzOp; rw [zm_181]; decide +kernel
theorem zo_181_78 : zzOp 181 78 = some (.getfield 118, 3) := by unfold zzOp; rw [zm_181]; decide +kernel
theorem zo_181_81 : zzOp 181 81 = some (.iload_n 3, 1) := by unfold zzOp; rw [zm_181]; decide +kernel
theorem zo_181_82 : zzOp 181 82 = some (.iadd, 1) := by unfold zzOp; rw [zm_181]; decide +kernel
theorem zo_181_83 : zzOp 181 83 = some (.invokevirtual 137, 3) := by unfold zzOp; rw [zm_181]; decide +kernel
theorem zo_181_86 : zzOp 181 86 = some (.iadd, 1) := by unfold zzOp; rw [zm_181]; decide +kernel
theorem zo_181_87 : zzOp 181 87 = some (.iastore, 1) := by unfold zzOp; rw [zm_181]; decide +kernel
theorem zo_181_88 : zzOp 181 88 = some (.aload_n 0, 1) := by unfold zzOp; rw [zm_181]; decide +kernel
theorem zo_181_89 : zzOp 181 89 = some (.getfield 41, 3) := by unfold zzOp; rw [zm_181]; decide +kernel
theorem zo_181_92 : zzOp 181 92 = some (.iload 4, 2) := by unfold zzOp; rw [zm_181]; decide +kernel
theorem zo_181_94 : zzOp 181 94 = some (.iaload, 1) := by unfold zzOp; rw [zm_181]; decide +kernel
theorem zo_181_95 : zzOp 181 95 = some (.aload_n 0, 1) := by unfold zzOp; rw [zm_181]; decide +kernel
theorem zo_181_96 : zzOp 181 96 = some (.getfield 23, 3) := by unfold zzOp; rw [zm_181]; decide +kernel
theorem zo_181_99 : zzOp 181 99 = some (.if_icmp .le 82, 3) := by unfold zzOp; rw [zm_181]; decide +kernel
theorem zo_181_102 : zzOp 181 102 = some (.aload_n 0, 1) := by unfold zzOp; rw [zm_181]; decide +kernel
theorem zo_181_103 : zzOp 181 103 = some (.getfield 41, 3) := by unfold zzOp; rw [zm_181]; decide +kernel
theorem zo_181_106 : zzOp 181 106 = some (.iload 4, 2) := by unfold zzOp; rw [zm_181]; decide +kernel
theorem zo_181_108 : zzOp 181 108 = some (.iconst 0, 1) := by unfold zzOp; rw [zm_181]; decide +kernel
theorem zo_181_109 : zzOp 181 109 = some (.iastore, 1) := by unfold zzOp; rw [zm_181]; decide +kernel
theorem zo_181_110 : zzOp 181 110 = some (.aload_n 0, 1) := by unfold zzOp; rw [zm_181]; decide +kernel
theorem zo_181_111 : zzOp 181 111 = some (.getfield 44, 3) := by unfold zzOp; rw [zm_181]; decide +kernel
theorem zo_181_114 : zzOp 181 114 = some (.iload 4, 2) := by unfold zzOp; rw [zm_181]; decide +kernel
theorem zo_181_116 : zzOp 181 116 = some (.dup2, 1) := by unfold zzOp; rw [zm_181]; decide +kernel
theorem zo_181_117 : zzOp 181 117 = some (.iaload, 1) := by unfold zzOp; rw [zm_181]; decide +kernel
theorem zo_181_118 : zzOp 181 118 = some (.iconst 1, 1) := by unfold zzOp; rw [zm_181]; decide +kernel
theorem zo_181_119 : zzOp 181 119 = some (.iadd, 1) := by unfold zzOp; rw [zm_181]; decide +kernel
theorem zo_181_120 : zzOp 181 120 = some (.iastore, 1) := by unfold zzOp; rw [zm_181]; decide +kernel
theorem zo_181_121 : zzOp 181 121 = some (.aload_n 0, 1) := by unfold zzOp; rw [zm_181]; decide +kernel
theorem zo_181_122 : zzOp 181 122 = some (.dup, 1) := by unfold zzOp; rw [zm_181]; decide +kernel
theorem zo_181_123 : zzOp 181 123 = some (.getfield 293, 3) := by unfold zzOp; rw [zm_181]; decide +kernel
theorem zo_181_126 : zzOp 181 126 = some (.iconst 1, 1) := by unfold zzOp; rw [zm_181]; decide +kernel
theorem zo_181_127 : zzOp 181 127 = some (.iadd, 1) := by unfold zzOp; rw [zm_181]; decide +kernel
theorem zo_181_128 : zzOp 181 128 = some (.putfield 293, 3) := by unfold zzOp; rw [zm_181]; decide +kernel
theorem zo_181_131 : zzOp 181 131 = some (.aload_n 0, 1) := by unfold zzOp; rw [zm_181]; decide +kernel
theorem zo_181_132 : zzOp 181 132 = some (.getfield 47, 3) := by unfold zzOp; rw [zm_181]; decide +kernel
theorem zo_181_135 : zzOp 181 135 = some (.iload 4, 2) := by unfold zzOp; rw [zm_181]; decide +kernel
theorem zo_181_137 : zzOp 181 137 = some (.aload_n 0, 1) := by unfold zzOp; rw [zm_181]; decide +kernel
theorem zo_181_138 : zzOp 181 138 = some (.getfield 47, 3) := by unfold zzOp; rw [zm_181]; decide +kernel
theorem zo_181_141 : zzOp 181 141 = some (.iload 4, 2) := by unfold zzOp; rw [zm_181]; decide +kernel
theorem zo_181_143 : zzOp 181 143 = some (.iaload, 1) := by unfold zzOp; rw [zm_181]; decide +kernel
theorem zo_181_144 : zzOp 181 144 = some (.iconst (-1), 1) := by unfold zzOp; rw [zm_181]; decide +kernel
theorem zo_181_145 : zzOp 181 145 = some (.if_icmp .ne 7, 3) := by unfold zzOp; rw [zm_181]; decide +kernel
theorem zo_181_148 : zzOp 181 148 = some (.iload_n 3, 1) := by unfold zzOp; rw [zm_181]; decide +kernel
theorem zo_181_149 : zzOp 181 149 = some (.goto 10, 3) := by unfold zzOp; rw [zm_181]; decide +kernel
theorem zo_181_152 : zzOp 181 152 = some (.aload_n 0, 1) := by unfold zzOp; rw [zm_181]; decide +kernel
theorem zo_181_153 : zzOp 181 153 = some (.getfield 47, 3) := by unfold zzOp; rw [zm_181]; decide +kernel
theorem zo_181_156 : zzOp 181 156 = some (.iload 4, 2) := by unfold zzOp; rw [zm_181]; decide +kernel
theorem zo_181_158 : zzOp 181 158 = some (.iaload, 1) := by unfold zzOp; rw [zm_181]; decide +kernel
theorem zo_181_159 : zzOp 181 159 = some (.iastore, 1) := by unfold zzOp; rw [zm_181]; decide +kernel
theorem zo_181_160 : zzOp 181 160 = some (.aload_n 0, 1) := by unfold zzOp; rw [zm_181]; decide +kernel
theorem zo_181_161 : zzOp 181 161 = some (.aload_n 0, 1) := by unfold zzOp; rw [zm_181]; decide +kernel
theorem zo_181_162 : zzOp 181 162 = some (.getfield 296, 3) := by unfold zzOp; rw [zm_181]; decide +kernel
theorem zo_181_165 : zzOp 181 165 = some (.iconst (-1), 1) := by unfold zzOp; rw [zm_181]; decide +kernel
theorem zo_181_166 : zzOp 181 166 = some (.if_icmp .ne 8, 3) := by unfold zzOp; rw [zm_181]; decide +kernel
theorem zo_181_169 : zzOp 181 169 = some (.iload 4, 2) := by unfold zzOp; rw [zm_181]; decide +kernel
theorem zo_181_171 : zzOp 181 171 = some (.goto 7, 3) := by unfold zzOp; rw [zm_181]; decide +kernel
theorem zo_181_174 : zzOp 181 174 = some (.aload_n 0, 1) := by unfold zzOp; rw [zm_181]; decide +kernel
theorem zo_181_175 : zzOp 181 175 = some (.getfield 296, 3) := by unfold zzOp; rw [zm_181]; decide +kernel
theorem zo_181_178 : zzOp 181 178 = some (.putfield 296, 3) := by unfold zzOp; rw [zm_181]; decide +kernel
theorem zo_181_181 : zzOp 181 181 = some (.iinc 4 1, 3) := by unfold zzOp; rw [zm_181]; decide +kernel
theorem zo_181_184 : zzOp 181 184 = some (.goto (-127), 3) := by unfold zzOp; rw [zm_181]; decide +kernel
theorem zo_181_187 : zzOp 181 187 = some (.iconst 0, 1) := by unfold zzOp; rw [zm_181]; decide +kernel
theorem zo_181_188 : zzOp 181 188 = some (.istore 4, 2) := by unfold zzOp; rw [zm_181]; decide +kernel
theorem zo_181_190 : zzOp 181 190 = some (.iload 4, 2) := by unfold zzOp; rw [zm_181]; decide +kernel
theorem zo_181_192 : zzOp 181 192 = some (.aload_n 0, 1) := by unfold zzOp; rw [zm_181]; decide +kernel
theorem zo_181_193 : zzOp 181 193 = some (.getfield 85, 3) := by unfold zzOp; rw [zm_181]; decide +kernel
theorem zo_181_196 : zzOp 181 196 = some (.if_icmp .ge 22, 3) := by unfold zzOp; rw [zm_181]; decide +kernel
theorem zo_181_199 : zzOp 181 199 = some (.iload_n 3, 1) := by unfold zzOp; rw [zm_181]; decide +kernel
theorem zo_181_200 : zzOp 181 200 = some (.iload_n 2, 1) := by unfold zzOp; rw [zm_181]; decide +kernel
theorem zo_181_201 : zzOp 181 201 = some (.if_icmp .ne 17, 3) := by unfold zzOp; rw [zm_181]; decide +kernel
theorem zo_181_204 : zzOp 181 204 = some (.aload_n 0, 1) := by unfold zzOp; rw [zm_181]; decide +kernel
theorem zo_181_205 : zzOp 181 205 = some (.getfield 41, 3) := by unfold zzOp; rw [zm_181]; decide +kernel
theorem zo_181_208 : zzOp 181 208 = some (.iload 4, 2) := by unfold zzOp; rw [zm_181]; decide +kernel
theorem zo_181_210 : zzOp 181 210 = some (.iconst 0, 1) := by unfold zzOp; rw [zm_181]; decide +kernel
theorem zo_181_211 : zzOp 181 211 = some (.iastore, 1) := by unfold zzOp; rw [zm_181]; decide +kernel
theorem zo_181_212 : zzOp 181 212 = some (.iinc 4 1, 3) := by unfold zzOp; rw [zm_181]; decide +kernel
theorem zo_181_215 : zzOp 181 215 = some (.goto (-25), 3) := by unfold zzOp; rw [zm_181]; decide +kernel
theorem zo_181_218 : zzOp 181 218 = some (.iinc 3 1, 3) := by unfold zzOp; rw [zm_181]; decide +kernel
theorem zo_181_221 : zzOp 181 221 = some (.goto (-172), 3) := by unfold zzOp; rw [zm_181]; decide +kernel
theorem zo_181_224 : zzOp 181 224 = some (.return_, 1) := by unfold zzOp; rw [zm_181]; decide +kernel
theorem zf_181_23 : zzGet zzFL (zzM 181).2.2.2.2.1 23 = some (7, 8) := by rw [zm_181]; decide +kernel
theorem zf_181_41 : zzGet zzFL (zzM 181).2.2.2.2.1 41 = some (7, 30) := by rw [zm_181]; decide +kernel
theorem zf_181_44 : zzGet zzFL (zzM 181).2.2.2.2.1 44 = some (7, 31) := by rw [zm_181]; decide +kernel
theorem zf_181_47 : zzGet zzFL (zzM 181).2.2.2.2.1 47 = some (7, 32) := by rw [zm_181]; decide +kernel
theorem zf_181_85 : zzGet zzFL (zzM 181).2.2.2.2.1 85 = some (7, 14) := by rw [zm_181]; decide +kernel
theorem zf_181_118 : zzGet zzFL (zzM 181).2.2.2.2.1 118 = some (7, 7) := by rw [zm_181]; decide +kernel
theorem zf_181_293 : zzGet zzFL (zzM 181).2.2.2.2.1 293 = some (7, 33) := by rw [zm_181]; decide +kernel
theorem zf_181_296 : zzGet zzFL (zzM 181).2.2.2.2.1 296 = some (7, 34) := by rw [zm_181]; decide +kernel
theorem zl_181_137 : zzGet zzML (zzM 181).2.2.2.2.1 137 = some (2, 176) := by rw [zm_181]; decide +kernel
theorem zm_182 : zzM 182 = (yX7_ride, cX7_ride, 4, (some .int), 7, 3, 1, zzc_182) := rfl
theorem zr_182 : (zzM 182).2.2.2.1 = (some .int) := by rw [zm_182]
theorem zo_182_0 : zzOp 182 0 = some (.iload_n 2, 1) := by unfold zzOp; rw [zm_182]; decide +kernel
theorem zo_182_1 : zzOp 182 1 = some (.i2l, 1) := by unfold zzOp; rw [zm_182]; decide +kernel
theorem zo_182_2 : zzOp 182 2 = some (.ldc2_w 181, 3) := by unfold zzOp; rw [zm_182]; decide +kernel
theorem zo_182_5 : zzOp 182 5 = some (.ldc2_w 299, 3) := by unfold zzOp; rw [zm_182]; decide +kernel
theorem zo_182_8 : zzOp 182 8 = some (.invokestatic 88, 3) := by unfold zzOp; rw [zm_182]; decide +kernel
theorem zo_182_11 : zzOp 182 11 = some (.ifCond .eq 18, 3) := by unfold zzOp; rw [zm_182]; decide +kernel
theorem zo_182_14 : zzOp 182 14 = some (.aload_n 0, 1) := by unfold zzOp; rw [zm_182]; decide +kernel
theorem zo_182_15 : zzOp 182 15 = some (.iload_n 2, 1) := by unfold zzOp; rw [zm_182]; decide +kernel
theorem zo_182_16 : zzOp 182 16 = some (.bipush 10, 2) := by unfold zzOp; rw [zm_182]; decide +kernel
theorem zo_182_18 : zzOp 182 18 = some (.irem, 1) := by unfold zzOp; rw [zm_182]; decide +kernel
theorem zo_182_19 : zzOp 182 19 = some (.invokevirtual 94, 3) := by unfold zzOp; rw [zm_182]; decide +kernel
theorem zo_182_22 : zzOp 182 22 = some (.ifCond .eq 7, 3) := by unfold zzOp; rw [zm_182]; decide +kernel
theorem zo_182_25 : zzOp 182 25 = some (.iconst 1, 1) := by unfold zzOp; rw [zm_182]; decide +kernel
theorem zo_182_26 : zzOp 182 26 = some (.goto 4, 3) := by unfold zzOp; rw [zm_182]; decide +kernel
theorem zo_182_29 : zzOp 182 29 = some (.iconst 0, 1) := by unfold zzOp; rw [zm_182]; decide +kernel
theorem zo_182_30 : zzOp 182 30 = some (.istore_n 3, 1) := by unfold zzOp; rw [zm_182]; decide +kernel
theorem zo_182_31 : zzOp 182 31 = some (.iload_n 1, 1) := by unfold zzOp; rw [zm_182]; decide +kernel
theorem zo_182_32 : zzOp 182 32 = some (.i2l, 1) := by unfold zzOp; rw [zm_182]; decide +kernel
theorem zo_182_33 : zzOp 182 33 = some (.lconst 0, 1) := by unfold zzOp; rw [zm_182]; decide +kernel
theorem zo_182_34 : zzOp 182 34 = some (.ldc2_w 253, 3) := by unfold zzOp; rw [zm_182]; decide +kernel
theorem zo_182_37 : zzOp 182 37 = some (.invokestatic 88, 3) := by unfold zzOp; rw [zm_182]; decide +kernel
theorem zo_182_40 : zzOp 182 40 = some (.ifCond .eq 17, 3) := by unfold zzOp; rw [zm_182]; decide +kernel
theorem zo_182_43 : zzOp 182 43 = some (.iload_n 2, 1) := by unfold zzOp; rw [zm_182]; decide +kernel
theorem zo_182_44 : zzOp 182 44 = some (.i2l, 1) := by unfold zzOp; rw [zm_182]; decide +kernel
theorem zo_182_45 : zzOp 182 45 = some (.lconst 0, 1) := by unfold zzOp; rw [zm_182]; decide +kernel
theorem zo_182_46 : zzOp 182 46 = some (.lconst 1, 1) := by unfold zzOp; rw [zm_182]; decide +kernel
theorem zo_182_47 : zzOp 182 47 = some (.invokestatic 88, 3) := by unfold zzOp; rw [zm_182]; decide +kernel
theorem zo_182_50 : zzOp 182 50 = some (.ifCond .ne 10, 3) := by unfold zzOp; rw [zm_182]; decide +kernel
theorem zo_182_53 : zzOp 182 53 = some (.iload_n 3, 1) := by unfold zzOp; rw [zm_182]; decide +kernel
theorem zo_182_54 : zzOp 182 54 = some (.ifCond .ne 6, 3) := by unfold zzOp; rw [zm_182]; decide +kernel
theorem zo_182_57 : zzOp 182 57 = some (.bipush (-2), 2) := by unfold zzOp; rw [zm_182]; decide +kernel
theorem zo_182_59 : zzOp 182 59 = some (.ireturn, 1) := by unfold zzOp; rw [zm_182]; decide +kernel
theorem zo_182_60 : zzOp 182 60 = some (.aload_n 0, 1) := by unfold zzOp; rw [zm_182]; decide +kernel
theorem zo_182_61 : zzOp 182 61 = some (.iload_n 1, 1) := by unfold zzOp; rw [zm_182]; decide +kernel
theorem zo_182_62 : zzOp 182 62 = some (.iconst (-1), 1) := by unfold zzOp; rw [zm_182]; decide +kernel
theorem zo_182_63 : zzOp 182 63 = some (.invokevirtual 301, 3) := by unfold zzOp; rw [zm_182]; decide +kernel
theorem zo_182_66 : zzOp 182 66 = some (.iload_n 2, 1) := by unfold zzOp; rw [zm_182]; decide +kernel
theorem zo_182_67 : zzOp 182 67 = some (.ifCond .ne 10, 3) := by unfold zzOp; rw [zm_182]; decide +kernel
theorem zo_182_70 : zzOp 182 70 = some (.aload_n 0, 1) := by unfold zzOp; rw [zm_182]; decide +kernel
theorem zo_182_71 : zzOp 182 71 = some (.getfield 293, 3) := by unfold zzOp; rw [zm_182]; decide +kernel
theorem zo_182_74 : zzOp 182 74 = some (.goto 42, 3) := by unfold zzOp; rw [zm_182]; decide +kernel
theorem zo_182_77 : zzOp 182 77 = some (.iload_n 2, 1) := by unfold zzOp; rw [zm_182]; decide +kernel
theorem zo_182_78 : zzOp 182 78 = some (.iconst 1, 1) := by unfold zzOp; rw [zm_182]; decide +kernel
theorem zo_182_79 : zzOp 182 79 = some (.if_icmp .ne 10, 3) := by unfold zzOp; rw [zm_182]; decide +kernel
theorem zo_182_82 : zzOp 182 82 = some (.aload_n 0, 1) := by unfold zzOp; rw [zm_182]; decide +kernel
theorem zo_182_83 : zzOp 182 83 = some (.getfield 296, 3) := by unfold zzOp; rw [zm_182]; decide +kernel
theorem zo_182_86 : zzOp 182 86 = some (.goto 30, 3) := by unfold zzOp; rw [zm_182]; decide +kernel
theorem zo_182_89 : zzOp 182 89 = some (.iload_n 2, 1) := by unfold zzOp; rw [zm_182]; decide +kernel
theorem zo_182_90 : zzOp 182 90 = some (.bipush 20, 2) := by unfold zzOp; rw [zm_182]; decide +kernel
theorem zo_182_92 : zzOp 182 92 = some (.if_icmp .ge 15, 3) := by unfold zzOp; rw [zm_182]; decide +kernel
theorem zo_182_95 : zzOp 182 95 = some (.aload_n 0, 1) := by unfold zzOp; rw [zm_182]; decide +kernel
theorem zo_182_96 : zzOp 182 96 = some (.getfield 47, 3) := by unfold zzOp; rw [zm_182]; decide +kernel
theorem zo_182_99 : zzOp 182 99 = some (.iload_n 2, 1) := by unfold zzOp; rw [zm_182]; decide +kernel
theorem zo_182_100 : zzOp 182 100 = some (.bipush 10, 2) := by unfold zzOp; rw [zm_182]; decide +kernel
theorem zo_182_102 : zzOp 182 102 = some (.isub, 1) := by unfold zzOp; rw [zm_182]; decide +kernel
theorem zo_182_103 : zzOp 182 103 = some (.iaload, 1) := by unfold zzOp; rw [zm_182]; decide +kernel
theorem zo_182_104 : zzOp 182 104 = some (.goto 12, 3) := by unfold zzOp; rw [zm_182]; decide +kernel
theorem zo_182_107 : zzOp 182 107 = some (.aload_n 0, 1) := by unfold zzOp; rw [zm_182]; decide +kernel
theorem zo_182_108 : zzOp 182 108 = some (.getfield 44, 3) := by unfold zzOp; rw [zm_182]; decide +kernel
theorem zo_182_111 : zzOp 182 111 = some (.iload_n 2, 1) := by unfold zzOp; rw [zm_182]; decide +kernel
theorem zo_182_112 : zzOp 182 112 = some (.bipush 20, 2) := by unfold zzOp; rw [zm_182]; decide +kernel
theorem zo_182_114 : zzOp 182 114 = some (.isub, 1) := by unfold zzOp; rw [zm_182]; decide +kernel
theorem zo_182_115 : zzOp 182 115 = some (.iaload, 1) := by unfold zzOp; rw [zm_182]; decide +kernel
theorem zo_182_116 : zzOp 182 116 = some (.ireturn, 1) := by unfold zzOp; rw [zm_182]; decide +kernel
theorem zf_182_44 : zzGet zzFL (zzM 182).2.2.2.2.1 44 = some (7, 31) := by rw [zm_182]; decide +kernel
theorem zf_182_47 : zzGet zzFL (zzM 182).2.2.2.2.1 47 = some (7, 32) := by rw [zm_182]; decide +kernel
theorem zf_182_293 : zzGet zzFL (zzM 182).2.2.2.2.1 293 = some (7, 33) := by rw [zm_182]; decide +kernel
theorem zf_182_296 : zzGet zzFL (zzM 182).2.2.2.2.1 296 = some (7, 34) := by rw [zm_182]; decide +kernel
theorem zl_182_88 : zzGet zzML (zzM 182).2.2.2.2.1 88 = some (0, 136) := by rw [zm_182]; decide +kernel
theorem zl_182_94 : zzGet zzML (zzM 182).2.2.2.2.1 94 = some (2, 140) := by rw [zm_182]; decide +kernel
theorem zl_182_301 : zzGet zzML (zzM 182).2.2.2.2.1 301 = some (2, 181) := by rw [zm_182]; decide +kernel
theorem zc_182_181 : zzGet zzKL (zzM 182).2.2.2.2.1 181 = some (10) := by rw [zm_182]; decide +kernel
theorem zc_182_253 : zzGet zzKL (zzM 182).2.2.2.2.1 253 = some (60) := by rw [zm_182]; decide +kernel
theorem zc_182_299 : zzGet zzKL (zzM 182).2.2.2.2.1 299 = some (29) := by rw [zm_182]; decide +kernel
theorem zm_183 : zzM 183 = (yX7_best, cX7_best, 6, (some .int), 7, 3, 1, zzc_183) := rfl
theorem zr_183 : (zzM 183).2.2.2.1 = (some .int) := by rw [zm_183]
theorem zo_183_0 : zzOp 183 0 = some (.aload_n 0, 1) := by unfold zzOp; rw [zm_183]; decide +kernel
theorem zo_183_1 : zzOp 183 1 = some (.iload_n 1, 1) := by unfold zzOp; rw [zm_183]; decide +kernel
theorem zo_183_2 : zzOp 183 2 = some (.invokevirtual 94, 3) := by unfold zzOp; rw [zm_183]; decide +kernel
theorem zo_183_5 : zzOp 183 5 = some (.ifCond .eq 13, 3) := by unfold zzOp; rw [zm_183]; decide +kernel
theorem zo_183_8 : zzOp 183 8 = some (.iload_n 2, 1) := by unfold zzOp; rw [zm_183]; decide +kernel
theorem zo_183_9 : zzOp 183 9 = some (.i2l, 1) := by unfold zzOp; rw [zm_183]; decide +kernel
theorem zo_183_10 : zzOp 183 10 = some (.lconst 0, 1) := by unfold zzOp; rw [zm_183]; decide +kernel
theorem zo_183_11 : zzOp 183 11 = some (.lconst 1, 1) := by unfold zzOp; rw [zm_183]; decide +kernel
theorem zo_183_12 : zzOp 183 12 = some (.invokestatic 88, 3) := by unfold zzOp; rw [zm_183]; decide +kernel
theorem zo_183_15 : zzOp 183 15 = some (.ifCond .ne 6, 3) := by unfold zzOp; rw [zm_183]; decide +kernel
theorem zo_183_18 : zzOp 183 18 = some (.bipush (-2), 2) := by unfold zzOp; rw [zm_183]; decide +kernel
theorem zo_183_20 : zzOp 183 20 = some (.ireturn, 1) := by unfold zzOp; rw [zm_183]; decide +kernel
theorem zo_183_21 : zzOp 183 21 = some (.aload_n 0, 1) := by unfold zzOp; rw [zm_183]; decide +kernel
theorem zo_183_22 : zzOp 183 22 = some (.getfield 35, 3) := by unfold zzOp; rw [zm_183]; decide +kernel
theorem zo_183_25 : zzOp 183 25 = some (.iload_n 1, 1) := by unfold zzOp; rw [zm_183]; decide +kernel
theorem zo_183_26 : zzOp 183 26 = some (.iaload, 1) := by unfold zzOp; rw [zm_183]; decide +kernel
theorem zo_183_27 : zzOp 183 27 = some (.istore_n 3, 1) := by unfold zzOp; rw [zm_183]; decide +kernel
theorem zo_183_28 : zzOp 183 28 = some (.aload_n 0, 1) := by unfold zzOp; rw [zm_183]; decide +kernel
theorem zo_183_29 : zzOp 183 29 = some (.iconst (-1), 1) := by unfold zzOp; rw [zm_183]; decide +kernel
theorem zo_183_30 : zzOp 183 30 = some (.putfield 304, 3) := by unfold zzOp; rw [zm_183]; decide +kernel
theorem zo_183_33 : zzOp 183 33 = some (.aload_n 0, 1) := by unfold zzOp; rw [zm_183]; decide +kernel
theorem zo_183_34 : zzOp 183 34 = some (.iconst 0, 1) := by unfold zzOp; rw [zm_183]; decide +kernel
theorem zo_183_35 : zzOp 183 35 = some (.putfield 307, 3) := by unfold zzOp; rw [zm_183]; decide +kernel
theorem zo_183_38 : zzOp 183 38 = some (.iconst 0, 1) := by unfold zzOp; rw [zm_183]; decide +kernel
theorem zo_183_39 : zzOp 183 39 = some (.istore 4, 2) := by unfold zzOp; rw [zm_183]; decide +kernel
theorem zo_183_41 : zzOp 183 41 = some (.iload 4, 2) := by unfold zzOp; rw [zm_183]; decide +kernel
theorem zo_183_43 : zzOp 183 43 = some (.bipush 24, 2) := by unfold zzOp; rw [zm_183]; decide +kernel
theorem zo_183_45 : zzOp 183 45 = some (.if_icmp .ge 73, 3) := by unfold zzOp; rw [zm_183]; decide +kernel
theorem zo_183_48 : zzOp 183 48 = some (.aload_n 0, 1) := by unfold zzOp; rw [zm_183]; decide +kernel
theorem zo_183_49 : zzOp 183 49 = some (.getfield 38, 3) := by unfold zzOp; rw [zm_183]; decide +kernel
theorem zo_183_52 : zzOp 183 52 = some (.iload 4, 2) := by unfold zzOp; rw [zm_183]; decide +kernel
theorem zo_183_54 : zzOp 183 54 = some (.iaload, 1) := by unfold zzOp; rw [zm_183]; decide +kernel
theorem zo_183_55 : zzOp 183 55 = some (.iconst (-1), 1) := by unfold zzOp; rw [zm_183]; decide +kernel
theorem zo_183_56 : zzOp 183 56 = some (.if_icmp .eq 14, 3) := by unfold zzOp; rw [zm_183]; decide +kernel
theorem zo_183_59 : zzOp 183 59 = some (.aload_n 0, 1) := by unfold zzOp; rw [zm_183]; decide +kernel
theorem zo_183_60 : zzOp 183 60 = some (.getfield 38, 3) := by unfold zzOp; rw [zm_183]; decide +kernel
theorem zo_183_63 : zzOp 183 63 = some (.iload 4, 2) := by unfold zzOp; rw [zm_183]; decide +kernel
theorem zo_183_65 : zzOp 183 65 = some (.iaload, 1) := by unfold zzOp; rw [zm_183]; decide +kernel
theorem zo_183_66 : zzOp 183 66 = some (.iload_n 1, 1) := by unfold zzOp; rw [zm_183]; decide +kernel
theorem zo_183_67 : zzOp 183 67 = some (.if_icmp .ne 45, 3) := by unfold zzOp; rw [zm_183]; decide +kernel
theorem zo_183_70 : zzOp 183 70 = some (.aload_n 0, 1) := by unfold zzOp; rw [zm_183]; decide +kernel
theorem zo_183_71 : zzOp 183 71 = some (.iload_n 1, 1) := by unfold zzOp; rw [zm_183]; decide +kernel
theorem zo_183_72 : zzOp 183 72 = some (.iload 4, 2) := by unfold zzOp; rw [zm_183]; decide +kernel
theorem zo_183_74 : zzOp 183 74 = some (.invokevirtual 129, 3) := by unfold zzOp; rw [zm_183]; decide +kernel
theorem zo_183_77 : zzOp 183 77 = some (.aload_n 0, 1) := by unfold zzOp; rw [zm_183]; decide +kernel
theorem zo_183_78 : zzOp 183 78 = some (.invokevirtual 287, 3) := by unfold zzOp; rw [zm_183]; decide +kernel
theorem zo_183_81 : zzOp 183 81 = some (.istore 5, 2) := by unfold zzOp; rw [zm_183]; decide +kernel
theorem zo_183_83 : zzOp 183 83 = some (.aload_n 0, 1) := by unfold zzOp; rw [zm_183]; decide +kernel
theorem zo_183_84 : zzOp 183 84 = some (.getfield 304, 3) := by unfold zzOp; rw [zm_183]; decide +kernel
theorem zo_183_87 : zzOp 183 87 = some (.iconst (-1), 1) := by unfold zzOp; rw [zm_183]; decide +kernel
theorem zo_183_88 : zzOp 183 88 = some (.if_icmp .eq 12, 3) := by unfold zzOp; rw [zm_183]; decide +kernel
theorem zo_183_91 : zzOp 183 91 = some (.iload 5, 2) := by unfold zzOp; rw [zm_183]; decide +kernel
theorem zo_183_93 : zzOp 183 93 = some (.aload_n 0, 1) := by unfold zzOp; rw [zm_183]; decide +kernel
theorem zo_183_94 : zzOp 183 94 = some (.getfield 307, 3) := by unfold zzOp; rw [zm_183]; decide +kernel
theorem zo_183_97 : zzOp 183 97 = some (.if_icmp .ge 15, 3) := by unfold zzOp; rw [zm_183]; decide +kernel
theorem zo_183_100 : zzOp 183 100 = some (.aload_n 0, 1) := by unfold zzOp; rw [zm_183]; decide +kernel
theorem zo_183_101 : zzOp 183 101 = some (.iload 4, 2) := by unfold zzOp; rw [zm_183]; decide +kernel
theorem zo_183_103 : zzOp 183 103 = some (.putfield 304, 3) := by unfold zzOp; rw [zm_183]; decide +kernel
theorem zo_183_106 : zzOp 183 106 = some (.aload_n 0, 1) := by unfold zzOp; rw [zm_183]; decide +kernel
theorem zo_183_107 : zzOp 183 107 = some (.iload 5, 2) := by unfold zzOp; rw [zm_183]; decide +kernel
theorem zo_183_109 : zzOp 183 109 = some (.putfield 307, 3) := by unfold zzOp; rw [zm_183]; decide +kernel
theorem zo_183_112 : zzOp 183 112 = some (.iinc 4 1, 3) := by unfold zzOp; rw [zm_183]; decide +kernel
theorem zo_183_115 : zzOp 183 115 = some (.goto (-74), 3) := by unfold zzOp; rw [zm_183]; decide +kernel
theorem zo_183_118 : zzOp 183 118 = some (.aload_n 0, 1) := by unfold zzOp; rw [zm_183]; decide +kernel
theorem zo_183_119 : zzOp 183 119 = some (.iload_n 1, 1) := by unfold zzOp; rw [zm_183]; decide +kernel
theorem zo_183_120 : zzOp 183 120 = some (.iload_n 3, 1) := by unfold zzOp; rw [zm_183]; decide +kernel
theorem zo_183_121 : zzOp 183 121 = some (.invokevirtual 129, 3) := by unfold zzOp; rw [zm_183]; decide +kernel
theorem zo_183_124 : zzOp 183 124 = some (.iload_n 2, 1) := by unfold zzOp; rw [zm_183]; decide +kernel
theorem zo_183_125 : zzOp 183 125 = some (.ifCond .ne 10, 3) := by unfold zzOp; rw [zm_183]; decide +kernel
theorem zo_183_128 : zzOp 183 128 = some (.aload_n 0, 1) := by unfold zzOp; rw [zm_183]; decide +kernel
theorem zo_183_129 : zzOp 183 129 = some (.getfield 304, 3) := by unfold zzOp; rw [zm_183]; decide +kernel
theorem zo_183_132 : zzOp 183 132 = some (.goto 7, 3) := by unfold zzOp; rw [zm_183]; decide +kernel
theorem zo_183_135 : zzOp 183 135 = some (.aload_n 0, 1) := by unfold zzOp; rw [zm_183]; decide +kernel
theorem zo_183_136 : zzOp 183 136 = some (.getfield 307, 3) := by unfold zzOp; rw [zm_183]; decide +kernel
theorem zo_183_139 : zzOp 183 139 = some (.ireturn, 1) := by unfold zzOp; rw [zm_183]; decide +kernel
theorem zf_183_35 : zzGet zzFL (zzM 183).2.2.2.2.1 35 = some (7, 12) := by rw [zm_183]; decide +kernel
theorem zf_183_38 : zzGet zzFL (zzM 183).2.2.2.2.1 38 = some (7, 13) := by rw [zm_183]; decide +kernel
theorem zf_183_304 : zzGet zzFL (zzM 183).2.2.2.2.1 304 = some (7, 35) := by rw [zm_183]; decide +kernel
theorem zf_183_307 : zzGet zzFL (zzM 183).2.2.2.2.1 307 = some (7, 36) := by rw [zm_183]; decide +kernel
theorem zl_183_88 : zzGet zzML (zzM 183).2.2.2.2.1 88 = some (0, 136) := by rw [zm_183]; decide +kernel
theorem zl_183_94 : zzGet zzML (zzM 183).2.2.2.2.1 94 = some (2, 140) := by rw [zm_183]; decide +kernel
theorem zl_183_129 : zzGet zzML (zzM 183).2.2.2.2.1 129 = some (2, 146) := by rw [zm_183]; decide +kernel
theorem zl_183_287 : zzGet zzML (zzM 183).2.2.2.2.1 287 = some (2, 178) := by rw [zm_183]; decide +kernel
theorem zm_184 : zzM 184 = (yX7_swaps, cX7_swaps, 5, none, 7, 3, 1, zzc_184) := rfl
theorem zr_184 : (zzM 184).2.2.2.1 = none := by rw [zm_184]
theorem zo_184_0 : zzOp 184 0 = some (.aload_n 0, 1) := by unfold zzOp; rw [zm_184]; decide +kernel
theorem zo_184_1 : zzOp 184 1 = some (.getfield 35, 3) := by unfold zzOp; rw [zm_184]; decide +kernel
theorem zo_184_4 : zzOp 184 4 = some (.iload_n 1, 1) := by unfold zzOp; rw [zm_184]; decide +kernel
theorem zo_184_5 : zzOp 184 5 = some (.iaload, 1) := by unfold zzOp; rw [zm_184]; decide +kernel
theorem zo_184_6 : zzOp 184 6 = some (.istore_n 3, 1) := by unfold zzOp; rw [zm_184]; decide +kernel
theorem zo_184_7 : zzOp 184 7 = some (.aload_n 0, 1) := by unfold zzOp; rw [zm_184]; decide +kernel
theorem zo_184_8 : zzOp 184 8 = some (.getfield 35, 3) := by unfold zzOp; rw [zm_184]; decide +kernel
theorem zo_184_11 : zzOp 184 11 = some (.iload_n 2, 1) := by unfold zzOp; rw [zm_184]; decide +kernel
theorem zo_184_12 : zzOp 184 12 = some (.iaload, 1) := by unfold zzOp; rw [zm_184]; decide +kernel
theorem zo_184_13 : zzOp 184 13 = some (.istore 4, 2) := by unfold zzOp; rw [zm_184]; decide +kernel
theorem zo_184_15 : zzOp 184 15 = some (.aload_n 0, 1) := by unfold zzOp; rw [zm_184]; decide +kernel
theorem zo_184_16 : zzOp 184 16 = some (.getfield 35, 3) := by unfold zzOp; rw [zm_184]; decide +kernel
theorem zo_184_19 : zzOp 184 19 = some (.iload_n 1, 1) := by unfold zzOp; rw [zm_184]; decide +kernel
theorem zo_184_20 : zzOp 184 20 = some (.iload 4, 2) := by unfold zzOp; rw [zm_184]; decide +kernel
theorem zo_184_22 : zzOp 184 22 = some (.iastore, 1) := by unfold zzOp; rw [zm_184]; decide +kernel
theorem zo_184_23 : zzOp 184 23 = some (.aload_n 0, 1) := by unfold zzOp; rw [zm_184]; decide +kernel
theorem zo_184_24 : zzOp 184 24 = some (.getfield 35, 3) := by unfold zzOp; rw [zm_184]; decide +kernel
theorem zo_184_27 : zzOp 184 27 = some (.iload_n 2, 1) := by unfold zzOp; rw [zm_184]; decide +kernel
theorem zo_184_28 : zzOp 184 28 = some (.iload_n 3, 1) := by unfold zzOp; rw [zm_184]; decide +kernel
theorem zo_184_29 : zzOp 184 29 = some (.iastore, 1) := by unfold zzOp; rw [zm_184]; decide +kernel
theorem zo_184_30 : zzOp 184 30 = some (.aload_n 0, 1) := by unfold zzOp; rw [zm_184]; decide +kernel
theorem zo_184_31 : zzOp 184 31 = some (.getfield 38, 3) := by unfold zzOp; rw [zm_184]; decide +kernel
theorem zo_184_34 : zzOp 184 34 = some (.iload_n 3, 1) := by unfold zzOp; rw [zm_184]; decide +kernel
theorem zo_184_35 : zzOp 184 35 = some (.iload_n 2, 1) := by unfold zzOp; rw [zm_184]; decide +kernel
theorem zo_184_36 : zzOp 184 36 = some (.iastore, 1) := by unfold zzOp; rw [zm_184]; decide +kernel
theorem zo_184_37 : zzOp 184 37 = some (.aload_n 0, 1) := by unfold zzOp; rw [zm_184]; decide +kernel
theorem zo_184_38 : zzOp 184 38 = some (.getfield 38, 3) := by unfold zzOp; rw [zm_184]; decide +kernel
theorem zo_184_41 : zzOp 184 41 = some (.iload 4, 2) := by unfold zzOp; rw [zm_184]; decide +kernel
theorem zo_184_43 : zzOp 184 43 = some (.iload_n 1, 1) := by unfold zzOp; rw [zm_184]; decide +kernel
theorem zo_184_44 : zzOp 184 44 = some (.iastore, 1) := by unfold zzOp; rw [zm_184]; decide +kernel
theorem zo_184_45 : zzOp 184 45 = some (.return_, 1) := by unfold zzOp; rw [zm_184]; decide +kernel
theorem zf_184_35 : zzGet zzFL (zzM 184).2.2.2.2.1 35 = some (7, 12) := by rw [zm_184]; decide +kernel
theorem zf_184_38 : zzGet zzFL (zzM 184).2.2.2.2.1 38 = some (7, 13) := by rw [zm_184]; decide +kernel
theorem zm_185 : zzM 185 = (yX7_looksAt, cX7_looksAt, 4, none, 7, 3, 1, zzc_185) := rfl
theorem zr_185 : (zzM 185).2.2.2.1 = none := by rw [zm_185]
theorem zo_185_0 : zzOp 185 0 = some (.aload_n 0, 1) := by unfold zzOp; rw [zm_185]; decide +kernel
theorem zo_185_1 : zzOp 185 1 = some (.iload_n 1, 1) := by unfold zzOp; rw [zm_185]; decide +kernel
theorem zo_185_2 : zzOp 185 2 = some (.iload_n 2, 1) := by unfold zzOp; rw [zm_185]; decide +kernel
theorem zo_185_3 : zzOp 185 3 = some (.invokevirtual 310, 3) := by unfold zzOp; rw [zm_185]; decide +kernel
theorem zo_185_6 : zzOp 185 6 = some (.aload_n 0, 1) := by unfold zzOp; rw [zm_185]; decide +kernel
theorem zo_185_7 : zzOp 185 7 = some (.invokevirtual 287, 3) := by unfold zzOp; rw [zm_185]; decide +kernel
theorem zo_185_10 : zzOp 185 10 = some (.istore_n 3, 1) := by unfold zzOp; rw [zm_185]; decide +kernel
theorem zo_185_11 : zzOp 185 11 = some (.aload_n 0, 1) := by unfold zzOp; rw [zm_185]; decide +kernel
theorem zo_185_12 : zzOp 185 12 = some (.iload_n 1, 1) := by unfold zzOp; rw [zm_185]; decide +kernel
theorem zo_185_13 : zzOp 185 13 = some (.iload_n 2, 1) := by unfold zzOp; rw [zm_185]; decide +kernel
theorem zo_185_14 : zzOp 185 14 = some (.invokevirtual 310, 3) := by unfold zzOp; rw [zm_185]; decide +kernel
theorem zo_185_17 : zzOp 185 17 = some (.iload_n 3, 1) := by unfold zzOp; rw [zm_185]; decide +kernel
theorem zo_185_18 : zzOp 185 18 = some (.aload_n 0, 1) := by unfold zzOp; rw [zm_185]; decide +kernel
theorem zo_185_19 : zzOp 185 19 = some (.getfield 307, 3) := by unfold zzOp; rw [zm_185]; decide +kernel
theorem zo_185_22 : zzOp 185 22 = some (.if_icmp .ge 18, 3) := by unfold zzOp; rw [zm_185]; decide +kernel
theorem zo_185_25 : zzOp 185 25 = some (.aload_n 0, 1) := by unfold zzOp; rw [zm_185]; decide +kernel
theorem zo_185_26 : zzOp 185 26 = some (.bipush 10, 2) := by unfold zzOp; rw [zm_185]; decide +kernel
theorem zo_185_28 : zzOp 185 28 = some (.iload_n 1, 1) := by unfold zzOp; rw [zm_185]; decide +kernel
theorem zo_185_29 : zzOp 185 29 = some (.imul, 1) := by unfold zzOp; rw [zm_185]; decide +kernel
theorem zo_185_30 : zzOp 185 30 = some (.iload_n 2, 1) := by unfold zzOp; rw [zm_185]; decide +kernel
theorem zo_185_31 : zzOp 185 31 = some (.iadd, 1) := by unfold zzOp; rw [zm_185]; decide +kernel
theorem zo_185_32 : zzOp 185 32 = some (.putfield 304, 3) := by unfold zzOp; rw [zm_185]; decide +kernel
theorem zo_185_35 : zzOp 185 35 = some (.aload_n 0, 1) := by unfold zzOp; rw [zm_185]; decide +kernel
theorem zo_185_36 : zzOp 185 36 = some (.iload_n 3, 1) := by unfold zzOp; rw [zm_185]; decide +kernel
theorem zo_185_37 : zzOp 185 37 = some (.putfield 307, 3) := by unfold zzOp; rw [zm_185]; decide +kernel
theorem zo_185_40 : zzOp 185 40 = some (.return_, 1) := by unfold zzOp; rw [zm_185]; decide +kernel
theorem zf_185_304 : zzGet zzFL (zzM 185).2.2.2.2.1 304 = some (7, 35) := by rw [zm_185]; decide +kernel
theorem zf_185_307 : zzGet zzFL (zzM 185).2.2.2.2.1 307 = some (7, 36) := by rw [zm_185]; decide +kernel
theorem zl_185_287 : zzGet zzML (zzM 185).2.2.2.2.1 287 = some (2, 178) := by rw [zm_185]; decide +kernel
theorem zl_185_310 : zzGet zzML (zzM 185).2.2.2.2.1 310 = some (2, 184) := by rw [zm_185]; decide +kernel
theorem zm_186 : zzM 186 = (yX7_change, cX7_change, 4, (some .int), 7, 2, 1, zzc_186) := rfl
theorem zr_186 : (zzM 186).2.2.2.1 = (some .int) := by rw [zm_186]
theorem zo_186_0 : zzOp 186 0 = some (.iload_n 1, 1) := by unfold zzOp; rw [zm_186]; decide +kernel
theorem zo_186_1 : zzOp 186 1 = some (.i2l, 1) := by unfold zzOp; rw [zm_186]; decide +kernel
theorem zo_186_2 : zzOp 186 2 = some (.lconst 0, 1) := by unfold zzOp; rw [zm_186]; decide +kernel
theorem zo_186_3 : zzOp 186 3 = some (.lconst 1, 1) := by unfold zzOp; rw [zm_186]; decide +kernel
theorem zo_186_4 : zzOp 186 4 = some (.invokestatic 88, 3) := by unfold zzOp; rw [zm_186]; decide +kernel
theorem zo_186_7 : zzOp 186 7 = some (.ifCond .ne 6, 3) := by unfold zzOp; rw [zm_186]; decide +kernel
theorem zo_186_10 : zzOp 186 10 = some (.bipush (-2), 2) := by unfold zzOp; rw [zm_186]; decide +kernel
theorem zo_186_12 : zzOp 186 12 = some (.ireturn, 1) := by unfold zzOp; rw [zm_186]; decide +kernel
theorem zo_186_13 : zzOp 186 13 = some (.aload_n 0, 1) := by unfold zzOp; rw [zm_186]; decide +kernel
theorem zo_186_14 : zzOp 186 14 = some (.iconst (-1), 1) := by unfold zzOp; rw [zm_186]; decide +kernel
theorem zo_186_15 : zzOp 186 15 = some (.putfield 304, 3) := by unfold zzOp; rw [zm_186]; decide +kernel
theorem zo_186_18 : zzOp 186 18 = some (.aload_n 0, 1) := by unfold zzOp; rw [zm_186]; decide +kernel
theorem zo_186_19 : zzOp 186 19 = some (.aload_n 0, 1) := by unfold zzOp; rw [zm_186]; decide +kernel
theorem zo_186_20 : zzOp 186 20 = some (.invokevirtual 287, 3) := by unfold zzOp; rw [zm_186]; decide +kernel
theorem zo_186_23 : zzOp 186 23 = some (.putfield 307, 3) := by unfold zzOp; rw [zm_186]; decide +kernel
theorem zo_186_26 : zzOp 186 26 = some (.iconst 0, 1) := by unfold zzOp; rw [zm_186]; decide +kernel
theorem zo_186_27 : zzOp 186 27 = some (.istore_n 2, 1) := by unfold zzOp; rw [zm_186]; decide +kernel
theorem zo_186_28 : zzOp 186 28 = some (.iload_n 2, 1) := by unfold zzOp; rw [zm_186]; decide +kernel
theorem zo_186_29 : zzOp 186 29 = some (.aload_n 0, 1) := by unfold zzOp; rw [zm_186]; decide +kernel
theorem zo_186_30 : zzOp 186 30 = some (.getfield 85, 3) := by unfold zzOp; rw [zm_186]; decide +kernel
theorem zo_186_33 : zzOp 186 33 = some (.if_icmp .ge 53, 3) := by unfold zzOp; rw [zm_186]; decide +kernel
theorem zo_186_36 : zzOp 186 36 = some (.iload_n 2, 1) := by unfold zzOp; rw [zm_186]; decide +kernel
theorem zo_186_37 : zzOp 186 37 = some (.iconst 1, 1) := by unfold zzOp; rw [zm_186]; decide +kernel
theorem zo_186_38 : zzOp 186 38 = some (.iadd, 1) := by unfold zzOp; rw [zm_186]; decide +kernel
theorem zo_186_39 : zzOp 186 39 = some (.istore_n 3, 1) := by unfold zzOp; rw [zm_186]; decide +kernel
theorem zo_186_40 : zzOp 186 40 = some (.iload_n 3, 1) := by unfold zzOp; rw [zm_186]; decide +kernel
theorem zo_186_41 : zzOp 186 41 = some (.aload_n 0, 1) := by unfold zzOp; rw [zm_186]; decide +kernel
theorem zo_186_42 : zzOp 186 42 = some (.getfield 85, 3) := by unfold zzOp; rw [zm_186]; decide +kernel
theorem zo_186_45 : zzOp 186 45 = some (.if_icmp .ge 35, 3) := by unfold zzOp; rw [zm_186]; decide +kernel
theorem zo_186_48 : zzOp 186 48 = some (.aload_n 0, 1) := by unfold zzOp; rw [zm_186]; decide +kernel
theorem zo_186_49 : zzOp 186 49 = some (.getfield 35, 3) := by unfold zzOp; rw [zm_186]; decide +kernel
theorem zo_186_52 : zzOp 186 52 = some (.iload_n 2, 1) := by unfold zzOp; rw [zm_186]; decide +kernel
theorem zo_186_53 : zzOp 186 53 = some (.iaload, 1) := by unfold zzOp; rw [zm_186]; decide +kernel
theorem zo_186_54 : zzOp 186 54 = some (.iconst (-1), 1) := by unfold zzOp; rw [zm_186]; decide +kernel
theorem zo_186_55 : zzOp 186 55 = some (.if_icmp .eq 19, 3) := by unfold zzOp; rw [zm_186]; decide +kernel
theorem zo_186_58 : zzOp 186 58 = some (.aload_n 0, 1) := by unfold zzOp; rw [zm_186]; decide +kernel
theorem zo_186_59 : zzOp 186 59 = some (.getfield 35, 3) := by unfold zzOp; rw [zm_186]; decide +kernel
theorem zo_186_62 : zzOp 186 62 = some (.iload_n 3, 1) := by unfold zzOp; rw [zm_186]; decide +kernel
theorem zo_186_63 : zzOp 186 63 = some (.iaload, 1) := by unfold zzOp; rw [zm_186]; decide +kernel
theorem zo_186_64 : zzOp 186 64 = some (.iconst (-1), 1) := by unfold zzOp; rw [zm_186]; decide +kernel
theorem zo_186_65 : zzOp 186 65 = some (.if_icmp .eq 9, 3) := by unfold zzOp; rw [zm_186]; decide +kernel
theorem zo_186_68 : zzOp 186 68 = some (.aload_n 0, 1) := by unfold zzOp; rw [zm_186]; decide +kernel
theorem zo_186_69 : zzOp 186 69 = some (.iload_n 2, 1) := by unfold zzOp; rw [zm_186]; decide +kernel
theorem zo_186_70 : zzOp 186 70 = some (.iload_n 3, 1) := by unfold zzOp; rw [zm_186]; decide +kernel
theorem zo_186_71 : zzOp 186 71 = some (.invokevirtual 313, 3) := by unfold zzOp; rw [zm_186]; decide +kernel
theorem zo_186_74 : zzOp 186 74 = some (.iinc 3 1, 3) := by unfold zzOp; rw [zm_186]; decide +kernel
theorem zo_186_77 : zzOp 186 77 = some (.goto (-37), 3) := by unfold zzOp; rw [zm_186]; decide +kernel
theorem zo_186_80 : zzOp 186 80 = some (.iinc 2 1, 3) := by unfold zzOp; rw [zm_186]; decide +kernel
theorem zo_186_83 : zzOp 186 83 = some (.goto (-55), 3) := by unfold zzOp; rw [zm_186]; decide +kernel
theorem zo_186_86 : zzOp 186 86 = some (.iload_n 1, 1) := by unfold zzOp; rw [zm_186]; decide +kernel
theorem zo_186_87 : zzOp 186 87 = some (.ifCond .ne 10, 3) := by unfold zzOp; rw [zm_186]; decide +kernel
theorem zo_186_90 : zzOp 186 90 = some (.aload_n 0, 1) := by unfold zzOp; rw [zm_186]; decide +kernel
theorem zo_186_91 : zzOp 186 91 = some (.getfield 304, 3) := by unfold zzOp; rw [zm_186]; decide +kernel
theorem zo_186_94 : zzOp 186 94 = some (.goto 7, 3) := by unfold zzOp; rw [zm_186]; decide +kernel
theorem zo_186_97 : zzOp 186 97 = some (.aload_n 0, 1) := by unfold zzOp; rw [zm_186]; decide +kernel
theorem zo_186_98 : zzOp 186 98 = some (.getfield 307, 3) := by unfold zzOp; rw [zm_186]; decide +kernel
theorem zo_186_101 : zzOp 186 101 = some (.ireturn, 1) := by unfold zzOp; rw [zm_186]; decide +kernel
theorem zf_186_35 : zzGet zzFL (zzM 186).2.2.2.2.1 35 = some (7, 12) := by rw [zm_186]; decide +kernel
theorem zf_186_85 : zzGet zzFL (zzM 186).2.2.2.2.1 85 = some (7, 14) := by rw [zm_186]; decide +kernel
theorem zf_186_304 : zzGet zzFL (zzM 186).2.2.2.2.1 304 = some (7, 35) := by rw [zm_186]; decide +kernel
theorem zf_186_307 : zzGet zzFL (zzM 186).2.2.2.2.1 307 = some (7, 36) := by rw [zm_186]; decide +kernel
theorem zl_186_88 : zzGet zzML (zzM 186).2.2.2.2.1 88 = some (0, 136) := by rw [zm_186]; decide +kernel
theorem zl_186_287 : zzGet zzML (zzM 186).2.2.2.2.1 287 = some (2, 178) := by rw [zm_186]; decide +kernel
theorem zl_186_313 : zzGet zzML (zzM 186).2.2.2.2.1 313 = some (2, 185) := by rw [zm_186]; decide +kernel
theorem zm_187 : zzM 187 = (yX7_firstTeacher, cX7_firstTeacher, 2, (some .int), 7, 1, 1, zzc_187) := rfl
theorem zr_187 : (zzM 187).2.2.2.1 = (some .int) := by rw [zm_187]
theorem zo_187_0 : zzOp 187 0 = some (.iconst 0, 1) := by unfold zzOp; rw [zm_187]; decide +kernel
theorem zo_187_1 : zzOp 187 1 = some (.istore_n 1, 1) := by unfold zzOp; rw [zm_187]; decide +kernel
theorem zo_187_2 : zzOp 187 2 = some (.iload_n 1, 1) := by unfold zzOp; rw [zm_187]; decide +kernel
theorem zo_187_3 : zzOp 187 3 = some (.aload_n 0, 1) := by unfold zzOp; rw [zm_187]; decide +kernel
theorem zo_187_4 : zzOp 187 4 = some (.getfield 85, 3) := by unfold zzOp; rw [zm_187]; decide +kernel
theorem zo_187_7 : zzOp 187 7 = some (.if_icmp .ge 31, 3) := by unfold zzOp; rw [zm_187]; decide +kernel
theorem zo_187_10 : zzOp 187 10 = some (.aload_n 0, 1) := by unfold zzOp; rw [zm_187]; decide +kernel
theorem zo_187_11 : zzOp 187 11 = some (.getfield 26, 3) := by unfold zzOp; rw [zm_187]; decide +kernel
theorem zo_187_14 : zzOp 187 14 = some (.iload_n 1, 1) := by unfold zzOp; rw [zm_187]; decide +kernel
theorem zo_187_15 : zzOp 187 15 = some (.iaload, 1) := by unfold zzOp; rw [zm_187]; decide +kernel
theorem zo_187_16 : zzOp 187 16 = some (.iconst 5, 1) := by unfold zzOp; rw [zm_187]; decide +kernel
theorem zo_187_17 : zzOp 187 17 = some (.if_icmp .ne 15, 3) := by unfold zzOp; rw [zm_187]; decide +kernel
theorem zo_187_20 : zzOp 187 20 = some (.aload_n 0, 1) := by unfold zzOp; rw [zm_187]; decide +kernel
theorem zo_187_21 : zzOp 187 21 = some (.getfield 35, 3) := by unfold zzOp; rw [zm_187]; decide +kernel
theorem zo_187_24 : zzOp 187 24 = some (.iload_n 1, 1) := by unfold zzOp; rw [zm_187]; decide +kernel
theorem zo_187_25 : zzOp 187 25 = some (.iaload, 1) := by unfold zzOp; rw [zm_187]; decide +kernel
theorem zo_187_26 : zzOp 187 26 = some (.iconst (-1), 1) := by unfold zzOp; rw [zm_187]; decide +kernel
theorem zo_187_27 : zzOp 187 27 = some (.if_icmp .eq 5, 3) := by unfold zzOp; rw [zm_187]; decide +kernel
theorem zo_187_30 : zzOp 187 30 = some (.iload_n 1, 1) := by unfold zzOp; rw [zm_187]; decide +kernel
theorem zo_187_31 : zzOp 187 31 = some (.ireturn, 1) := by unfold zzOp; rw [zm_187]; decide +kernel
theorem zo_187_32 : zzOp 187 32 = some (.iinc 1 1, 3) := by unfold zzOp; rw [zm_187]; decide +kernel
theorem zo_187_35 : zzOp 187 35 = some (.goto (-33), 3) := by unfold zzOp; rw [zm_187]; decide +kernel
theorem zo_187_38 : zzOp 187 38 = some (.iconst (-1), 1) := by unfold zzOp; rw [zm_187]; decide +kernel
theorem zo_187_39 : zzOp 187 39 = some (.ireturn, 1) := by unfold zzOp; rw [zm_187]; decide +kernel
theorem zf_187_26 : zzGet zzFL (zzM 187).2.2.2.2.1 26 = some (7, 9) := by rw [zm_187]; decide +kernel
theorem zf_187_35 : zzGet zzFL (zzM 187).2.2.2.2.1 35 = some (7, 12) := by rw [zm_187]; decide +kernel
theorem zf_187_85 : zzGet zzFL (zzM 187).2.2.2.2.1 85 = some (7, 14) := by rw [zm_187]; decide +kernel
theorem zm_188 : zzM 188 = (yX7_watch, cX7_watch, 8, (some .int), 7, 2, 1, zzc_188) := rfl
theorem zr_188 : (zzM 188).2.2.2.1 = (some .int) := by rw [zm_188]
theorem zo_188_0 : zzOp 188 0 = some (.iload_n 1, 1) := by unfold zzOp; rw [zm_188]; decide +kernel
theorem zo_188_1 : zzOp 188 1 = some (.i2l, 1) := by unfold zzOp; rw [zm_188]; decide +kernel
theorem zo_188_2 : zzOp 188 2 = some (.lconst 0, 1) := by unfold zzOp; rw [zm_188]; decide +kernel
theorem zo_188_3 : zzOp 188 3 = some (.lconst 1, 1) := by unfold zzOp; rw [zm_188]; decide +kernel
theorem zo_188_4 : zzOp 188 4 = some (.invokestatic 88, 3) := by unfold zzOp; rw [zm_188]; decide +kernel
theorem zo_188_7 : zzOp 188 7 = some (.ifCond .ne 6, 3) := by unfold zzOp; rw [zm_188]; decide +kernel
theorem zo_188_10 : zzOp 188 10 = some (.bipush (-2), 2) := by unfold zzOp; rw [zm_188]; decide +kernel
theorem zo_188_12 : zzOp 188 12 = some (.ireturn, 1) := by unfold zzOp; rw [zm_188]; decide +kernel
theorem zo_188_13 : zzOp 188 13 = some (.aload_n 0, 1) := by unfold zzOp; rw [zm_188]; decide +kernel
theorem zo_188_14 : zzOp 188 14 = some (.iconst (-1), 1) := by unfold zzOp; rw [zm_188]; decide +kernel
theorem zo_188_15 : zzOp 188 15 = some (.putfield 304, 3) := by unfold zzOp; rw [zm_188]; decide +kernel
theorem zo_188_18 : zzOp 188 18 = some (.aload_n 0, 1) := by unfold zzOp; rw [zm_188]; decide +kernel
theorem zo_188_19 : zzOp 188 19 = some (.aload_n 0, 1) := by unfold zzOp; rw [zm_188]; decide +kernel
theorem zo_188_20 : zzOp 188 20 = some (.invokevirtual 287, 3) := by unfold zzOp; rw [zm_188]; decide +kernel
theorem zo_188_23 : zzOp 188 23 = some (.putfield 307, 3) := by unfold zzOp; rw [zm_188]; decide +kernel
theorem zo_188_26 : zzOp 188 26 = some (.aload_n 0, 1) := by unfold zzOp; rw [zm_188]; decide +kernel
theorem zo_188_27 : zzOp 188 27 = some (.invokevirtual 316, 3) := by unfold zzOp; rw [zm_188]; decide +kernel
theorem zo_188_30 : zzOp 188 30 = some (.istore_n 2, 1) := by unfold zzOp; rw [zm_188]; decide +kernel
theorem zo_188_31 : zzOp 188 31 = some (.iload_n 2, 1) := by unfold zzOp; rw [zm_188]; decide +kernel
theorem zo_188_32 : zzOp 188 32 = some (.iconst (-1), 1) := by unfold zzOp; rw [zm_188]; decide +kernel
theorem zo_188_33 : zzOp 188 33 = some (.if_icmp .ne 7, 3) := by unfold zzOp; rw [zm_188]; decide +kernel
theorem zo_188_36 : zzOp 188 36 = some (.iconst (-1), 1) := by unfold zzOp; rw [zm_188]; decide +kernel
theorem zo_188_37 : zzOp 188 37 = some (.goto 9, 3) := by unfold zzOp; rw [zm_188]; decide +kernel
theorem zo_188_40 : zzOp 188 40 = some (.aload_n 0, 1) := by unfold zzOp; rw [zm_188]; decide +kernel
theorem zo_188_41 : zzOp 188 41 = some (.iload_n 2, 1) := by unfold zzOp; rw [zm_188]; decide +kernel
theorem zo_188_42 : zzOp 188 42 = some (.iconst (-1), 1) := by unfold zzOp; rw [zm_188]; decide +kernel
theorem zo_188_43 : zzOp 188 43 = some (.invokevirtual 265, 3) := by unfold zzOp; rw [zm_188]; decide +kernel
theorem zo_188_46 : zzOp 188 46 = some (.istore_n 3, 1) := by unfold zzOp; rw [zm_188]; decide +kernel
theorem zo_188_47 : zzOp 188 47 = some (.iload_n 2, 1) := by unfold zzOp; rw [zm_188]; decide +kernel
theorem zo_188_48 : zzOp 188 48 = some (.iconst (-1), 1) := by unfold zzOp; rw [zm_188]; decide +kernel
theorem zo_188_49 : zzOp 188 49 = some (.if_icmp .ne 7, 3) := by unfold zzOp; rw [zm_188]; decide +kernel
theorem zo_188_52 : zzOp 188 52 = some (.iconst (-1), 1) := by unfold zzOp; rw [zm_188]; decide +kernel
theorem zo_188_53 : zzOp 188 53 = some (.goto 9, 3) := by unfold zzOp; rw [zm_188]; decide +kernel
theorem zo_188_56 : zzOp 188 56 = some (.aload_n 0, 1) := by unfold zzOp; rw [zm_188]; decide +kernel
theorem zo_188_57 : zzOp 188 57 = some (.iload_n 2, 1) := by unfold zzOp; rw [zm_188]; decide +kernel
theorem zo_188_58 : zzOp 188 58 = some (.iconst 1, 1) := by unfold zzOp; rw [zm_188]; decide +kernel
theorem zo_188_59 : zzOp 188 59 = some (.invokevirtual 265, 3) := by unfold zzOp; rw [zm_188]; decide +kernel
theorem zo_188_62 : zzOp 188 62 = some (.istore 4, 2) := by unfold zzOp; rw [zm_188]; decide +kernel
theorem zo_188_64 : zzOp 188 64 = some (.iconst 0, 1) := by unfold zzOp; rw [zm_188]; decide +kernel
theorem zo_188_65 : zzOp 188 65 = some (.istore 5, 2) := by unfold zzOp; rw [zm_188]; decide +kernel
theorem zo_188_67 : zzOp 188 67 = some (.iload 5, 2) := by unfold zzOp; rw [zm_188]; decide +kernel
theorem zo_188_69 : zzOp 188 69 = some (.aload_n 0, 1) := by unfold zzOp; rw [zm_188]; decide +kernel
theorem zo_188_70 : zzOp 188 70 = some (.getfield 85, 3) := by unfold zzOp; rw [zm_188]; decide +kernel
theorem zo_188_73 : zzOp 188 73 = some (.if_icmp .ge 89, 3) := by unfold zzOp; rw [zm_188]; decide +kernel
theorem zo_188_76 : zzOp 188 76 = some (.iconst 0, 1) := by unfold zzOp; rw [zm_188]; decide +kernel
theorem zo_188_77 : zzOp 188 77 = some (.istore 6, 2) := by unfold zzOp; rw [zm_188]; decide +kernel
theorem zo_188_79 : zzOp 188 79 = some (.iload 6, 2) := by unfold zzOp; rw [zm_188]; decide +kernel
theorem zo_188_81 : zzOp 188 81 = some (.aload_n 0, 1) := by unfold zzOp; rw [zm_188]; decide +kernel
theorem zo_188_82 : zzOp 188 82 = some (.getfield 85, 3) := by unfold zzOp; rw [zm_188]; decide +kernel
theorem zo_188_85 : zzOp 188 85 = some (.if_icmp .ge 71, 3) := by unfold zzOp; rw [zm_188]; decide +kernel
theorem zo_188_88 : zzOp 188 88 = some (.iload 5, 2) := by unfold zzOp; rw [zm_188]; decide +kernel
theorem zo_188_90 : zzOp 188 90 = some (.iload 6, 2) := by unfold zzOp; rw [zm_188]; decide +kernel
theorem zo_188_92 : zzOp 188 92 = some (.if_icmp .eq 42, 3) := by unfold zzOp; rw [zm_188]; decide +kernel
theorem zo_188_95 : zzOp 188 95 = some (.aload_n 0, 1) := by unfold zzOp; rw [zm_188]; decide +kernel
theorem zo_188_96 : zzOp 188 96 = some (.getfield 26, 3) := by unfold zzOp; rw [zm_188]; decide +kernel
theorem zo_188_99 : zzOp 188 99 = some (.iload 5, 2) := by unfold zzOp; rw [zm_188]; decide +kernel
theorem zo_188_101 : zzOp 188 101 = some (.iaload, 1) := by unfold zzOp; rw [zm_188]; decide +kernel
theorem zo_188_102 : zzOp 188 102 = some (.iconst 5, 1) := by unfold zzOp; rw [zm_188]; decide +kernel
theorem zo_188_103 : zzOp 188 103 = some (.if_icmp .eq 31, 3) := by unfold zzOp; rw [zm_188]; decide +kernel
theorem zo_188_106 : zzOp 188 106 = some (.aload_n 0, 1) := by unfold zzOp; rw [zm_188]; decide +kernel
theorem zo_188_107 : zzOp 188 107 = some (.getfield 35, 3) := by unfold zzOp; rw [zm_188]; decide +kernel
theorem zo_188_110 : zzOp 188 110 = some (.iload 5, 2) := by unfold zzOp; rw [zm_188]; decide +kernel
theorem zo_188_112 : zzOp 188 112 = some (.iaload, 1) := by unfold zzOp; rw [zm_188]; decide +kernel
theorem zo_188_113 : zzOp 188 113 = some (.iconst (-1), 1) := by unfold zzOp; rw [zm_188]; decide +kernel
theorem zo_188_114 : zzOp 188 114 = some (.if_icmp .eq 20, 3) := by unfold zzOp; rw [zm_188]; decide +kernel
theorem zo_188_117 : zzOp 188 117 = some (.iload 6, 2) := by unfold zzOp; rw [zm_188]; decide +kernel
theorem zo_188_119 : zzOp 188 119 = some (.iload_n 3, 1) := by unfold zzOp; rw [zm_188]; decide +kernel
theorem zo_188_120 : zzOp 188 120 = some (.if_icmp .eq 10, 3) := by unfold zzOp; rw [zm_188]; decide +kernel
theorem zo_188_123 : zzOp 188 123 = some (.iload 6, 2) := by unfold zzOp; rw [zm_188]; decide +kernel
theorem zo_188_125 : zzOp 188 125 = some (.iload 4, 2) := by unfold zzOp; rw [zm_188]; decide +kernel
theorem zo_188_127 : zzOp 188 127 = some (.if_icmp .ne 7, 3) := by unfold zzOp; rw [zm_188]; decide +kernel
theorem zo_188_130 : zzOp 188 130 = some (.iconst 1, 1) := by unfold zzOp; rw [zm_188]; decide +kernel
theorem zo_188_131 : zzOp 188 131 = some (.goto 4, 3) := by unfold zzOp; rw [zm_188]; decide +kernel
theorem zo_188_134 : zzOp 188 134 = some (.iconst 0, 1) := by unfold zzOp; rw [zm_188]; decide +kernel
theorem zo_188_135 : zzOp 188 135 = some (.istore 7, 2) := by unfold zzOp; rw [zm_188]; decide +kernel
theorem zo_188_137 : zzOp 188 137 = some (.iload 7, 2) := by unfold zzOp; rw [zm_188]; decide +kernel
theorem zo_188_139 : zzOp 188 139 = some (.ifCond .eq 11, 3) := by unfold zzOp; rw [zm_188]; decide +kernel
theorem zo_188_142 : zzOp 188 142 = some (.aload_n 0, 1) := by unfold zzOp; rw [zm_188]; decide +kernel
theorem zo_188_143 : zzOp 188 143 = some (.iload 5, 2) := by unfold zzOp; rw [zm_188]; decide +kernel
theorem zo_188_145 : zzOp 188 145 = some (.iload 6, 2) := by unfold zzOp; rw [zm_188]; decide +kernel
theorem zo_188_147 : zzOp 188 147 = some (.invokevirtual 313, 3) := by unfold zzOp; rw [zm_188]; decide +kernel
theorem zo_188_150 : zzOp 188 150 = some (.iinc 6 1, 3) := by unfold zzOp; rw [zm_188]; decide +kernel
theorem zo_188_153 : zzOp 188 153 = some (.goto (-74), 3) := by unfold zzOp; rw [zm_188]; decide +kernel
theorem zo_188_156 : zzOp 188 156 = some (.iinc 5 1, 3) := by unfold zzOp; rw [zm_188]; decide +kernel
theorem zo_188_159 : zzOp 188 159 = some (.goto (-92), 3) := by unfold zzOp; rw [zm_188]; decide +kernel
theorem zo_188_162 : zzOp 188 162 = some (.iload_n 1, 1) := by unfold zzOp; rw [zm_188]; decide +kernel
theorem zo_188_163 : zzOp 188 163 = some (.ifCond .ne 10, 3) := by unfold zzOp; rw [zm_188]; decide +kernel
theorem zo_188_166 : zzOp 188 166 = some (.aload_n 0, 1) := by unfold zzOp; rw [zm_188]; decide +kernel
theorem zo_188_167 : zzOp 188 167 = some (.getfield 304, 3) := by unfold zzOp; rw [zm_188]; decide +kernel
theorem zo_188_170 : zzOp 188 170 = some (.goto 7, 3) := by unfold zzOp; rw [zm_188]; decide +kernel
theorem zo_188_173 : zzOp 188 173 = some (.aload_n 0, 1) := by unfold zzOp; rw [zm_188]; decide +kernel
theorem zo_188_174 : zzOp 188 174 = some (.getfield 307, 3) := by unfold zzOp; rw [zm_188]; decide +kernel
theorem zo_188_177 : zzOp 188 177 = some (.ireturn, 1) := by unfold zzOp; rw [zm_188]; decide +kernel
theorem zf_188_26 : zzGet zzFL (zzM 188).2.2.2.2.1 26 = some (7, 9) := by rw [zm_188]; decide +kernel
theorem zf_188_35 : zzGet zzFL (zzM 188).2.2.2.2.1 35 = some (7, 12) := by rw [zm_188]; decide +kernel
theorem zf_188_85 : zzGet zzFL (zzM 188).2.2.2.2.1 85 = some (7, 14) := by rw [zm_188]; decide +kernel
theorem zf_188_304 : zzGet zzFL (zzM 188).2.2.2.2.1 304 = some (7, 35) := by rw [zm_188]; decide +kernel
theorem zf_188_307 : zzGet zzFL (zzM 188).2.2.2.2.1 307 = some (7, 36) := by rw [zm_188]; decide +kernel
theorem zl_188_88 : zzGet zzML (zzM 188).2.2.2.2.1 88 = some (0, 136) := by rw [zm_188]; decide +kernel
theorem zl_188_265 : zzGet zzML (zzM 188).2.2.2.2.1 265 = some (2, 169) := by rw [zm_188]; decide +kernel
theorem zl_188_287 : zzGet zzML (zzM 188).2.2.2.2.1 287 = some (2, 178) := by rw [zm_188]; decide +kernel
theorem zl_188_313 : zzGet zzML (zzM 188).2.2.2.2.1 313 = some (2, 185) := by rw [zm_188]; decide +kernel
theorem zl_188_316 : zzGet zzML (zzM 188).2.2.2.2.1 316 = some (2, 187) := by rw [zm_188]; decide +kernel
theorem zm_189 : zzM 189 = (yX7_isHat, cX7_isHat, 6, (some .boolean), 7, 2, 1, zzc_189) := rfl
theorem zr_189 : (zzM 189).2.2.2.1 = (some .boolean) := by rw [zm_189]
theorem zo_189_0 : zzOp 189 0 = some (.aload_n 0, 1) := by unfold zzOp; rw [zm_189]; decide +kernel
theorem zo_189_1 : zzOp 189 1 = some (.getfield 72, 3) := by unfold zzOp; rw [zm_189]; decide +kernel
theorem zo_189_4 : zzOp 189 4 = some (.iload_n 1, 1) := by unfold zzOp; rw [zm_189]; decide +kernel
theorem zo_189_5 : zzOp 189 5 = some (.iaload, 1) := by unfold zzOp; rw [zm_189]; decide +kernel
theorem zo_189_6 : zzOp 189 6 = some (.iconst 2, 1) := by unfold zzOp; rw [zm_189]; decide +kernel
theorem zo_189_7 : zzOp 189 7 = some (.irem, 1) := by unfold zzOp; rw [zm_189]; decide +kernel
theorem zo_189_8 : zzOp 189 8 = some (.ifCond .ne 22, 3) := by unfold zzOp; rw [zm_189]; decide +kernel
theorem zo_189_11 : zzOp 189 11 = some (.aload_n 0, 1) := by unfold zzOp; rw [zm_189]; decide +kernel
theorem zo_189_12 : zzOp 189 12 = some (.getfield 72, 3) := by unfold zzOp; rw [zm_189]; decide +kernel
theorem zo_189_15 : zzOp 189 15 = some (.iload_n 1, 1) := by unfold zzOp; rw [zm_189]; decide +kernel
theorem zo_189_16 : zzOp 189 16 = some (.iaload, 1) := by unfold zzOp; rw [zm_189]; decide +kernel
theorem zo_189_17 : zzOp 189 17 = some (.i2l, 1) := by unfold zzOp; rw [zm_189]; decide +kernel
theorem zo_189_18 : zzOp 189 18 = some (.ldc2_w 284, 3) := by unfold zzOp; rw [zm_189]; decide +kernel
theorem zo_189_21 : zzOp 189 21 = some (.ldc2_w 319, 3) := by unfold zzOp; rw [zm_189]; decide +kernel
theorem zo_189_24 : zzOp 189 24 = some (.invokestatic 88, 3) := by unfold zzOp; rw [zm_189]; decide +kernel
theorem zo_189_27 : zzOp 189 27 = some (.ifCond .ne 5, 3) := by unfold zzOp; rw [zm_189]; decide +kernel
theorem zo_189_30 : zzOp 189 30 = some (.iconst 0, 1) := by unfold zzOp; rw [zm_189]; decide +kernel
theorem zo_189_31 : zzOp 189 31 = some (.ireturn, 1) := by unfold zzOp; rw [zm_189]; decide +kernel
theorem zo_189_32 : zzOp 189 32 = some (.aload_n 0, 1) := by unfold zzOp; rw [zm_189]; decide +kernel
theorem zo_189_33 : zzOp 189 33 = some (.aload_n 0, 1) := by unfold zzOp; rw [zm_189]; decide +kernel
theorem zo_189_34 : zzOp 189 34 = some (.getfield 72, 3) := by unfold zzOp; rw [zm_189]; decide +kernel
theorem zo_189_37 : zzOp 189 37 = some (.iload_n 1, 1) := by unfold zzOp; rw [zm_189]; decide +kernel
theorem zo_189_38 : zzOp 189 38 = some (.iaload, 1) := by unfold zzOp; rw [zm_189]; decide +kernel
theorem zo_189_39 : zzOp 189 39 = some (.iconst 2, 1) := by unfold zzOp; rw [zm_189]; decide +kernel
theorem zo_189_40 : zzOp 189 40 = some (.idiv, 1) := by unfold zzOp; rw [zm_189]; decide +kernel
theorem zo_189_41 : zzOp 189 41 = some (.putfield 321, 3) := by unfold zzOp; rw [zm_189]; decide +kernel
theorem zo_189_44 : zzOp 189 44 = some (.iconst 0, 1) := by unfold zzOp; rw [zm_189]; decide +kernel
theorem zo_189_45 : zzOp 189 45 = some (.istore_n 2, 1) := by unfold zzOp; rw [zm_189]; decide +kernel
theorem zo_189_46 : zzOp 189 46 = some (.iconst 0, 1) := by unfold zzOp; rw [zm_189]; decide +kernel
theorem zo_189_47 : zzOp 189 47 = some (.istore_n 3, 1) := by unfold zzOp; rw [zm_189]; decide +kernel
theorem zo_189_48 : zzOp 189 48 = some (.iload_n 3, 1) := by unfold zzOp; rw [zm_189]; decide +kernel
theorem zo_189_49 : zzOp 189 49 = some (.aload_n 0, 1) := by unfold zzOp; rw [zm_189]; decide +kernel
theorem zo_189_50 : zzOp 189 50 = some (.getfield 321, 3) := by unfold zzOp; rw [zm_189]; decide +kernel
theorem zo_189_53 : zzOp 189 53 = some (.if_icmp .ge 50, 3) := by unfold zzOp; rw [zm_189]; decide +kernel
theorem zo_189_56 : zzOp 189 56 = some (.aload_n 0, 1) := by unfold zzOp; rw [zm_189]; decide +kernel
theorem zo_189_57 : zzOp 189 57 = some (.getfield 75, 3) := by unfold zzOp; rw [zm_189]; decide +kernel
theorem zo_189_60 : zzOp 189 60 = some (.bipush 40, 2) := by unfold zzOp; rw [zm_189]; decide +kernel
theorem zo_189_62 : zzOp 189 62 = some (.iload_n 1, 1) := by unfold zzOp; rw [zm_189]; decide +kernel
theorem zo_189_63 : zzOp 189 63 = some (.imul, 1) := by unfold zzOp; rw [zm_189]; decide +kernel
theorem zo_189_64 : zzOp 189 64 = some (.iload_n 3, 1) := by unfold zzOp; rw [zm_189]; decide +kernel
theorem zo_189_65 : zzOp 189 65 = some (.iadd, 1) := by unfold zzOp; rw [zm_189]; decide +kernel
theorem zo_189_66 : zzOp 189 66 = some (.iaload, 1) := by unfold zzOp; rw [zm_189]; decide +kernel
theorem zo_189_67 : zzOp 189 67 = some (.istore 4, 2) := by unfold zzOp; rw [zm_189]; decide +kernel
theorem zo_189_69 : zzOp 189 69 = some (.aload_n 0, 1) := by unfold zzOp; rw [zm_189]; decide +kernel
theorem zo_189_70 : zzOp 189 70 = some (.iload 4, 2) := by unfold zzOp; rw [zm_189]; decide +kernel
theorem zo_189_72 : zzOp 189 72 = some (.invokevirtual 94, 3) := by unfold zzOp; rw [zm_189]; decide +kernel
theorem zo_189_75 : zzOp 189 75 = some (.ifCond .eq 13, 3) := by unfold zzOp; rw [zm_189]; decide +kernel
theorem zo_189_78 : zzOp 189 78 = some (.iload_n 2, 1) := by unfold zzOp; rw [zm_189]; decide +kernel
theorem zo_189_79 : zzOp 189 79 = some (.iload 4, 2) := by unfold zzOp; rw [zm_189]; decide +kernel
theorem zo_189_81 : zzOp 189 81 = some (.ishr, 1) := by unfold zzOp; rw [zm_189]; decide +kernel
theorem zo_189_82 : zzOp 189 82 = some (.iconst 1, 1) := by unfold zzOp; rw [zm_189]; decide +kernel
theorem zo_189_83 : zzOp 189 83 = some (.iand, 1) := by unfold zzOp; rw [zm_189]; decide +kernel
theorem zo_189_84 : zzOp 189 84 = some (.iconst 1, 1) := by unfold zzOp; rw [zm_189]; decide +kernel
theorem zo_189_85 : zzOp 189 85 = some (.if_icmp .ne 5, 3) := by unfold zzOp; rw [zm_189]; decide +kernel
theorem zo_189_88 : zzOp 189 88 = some (.iconst 0, 1) := by unfold zzOp; rw [zm_189]; decide +kernel
theorem zo_189_89 : zzOp 189 89 = some (.ireturn, 1) := by unfold zzOp; rw [zm_189]; decide +kernel
theorem zo_189_90 : zzOp 189 90 = some (.iload_n 2, 1) := by unfold zzOp; rw [zm_189]; decide +kernel
theorem zo_189_91 : zzOp 189 91 = some (.iconst 1, 1) := by unfold zzOp; rw [zm_189]; decide +kernel
theorem zo_189_92 : zzOp 189 92 = some (.iload 4, 2) := by unfold zzOp; rw [zm_189]; decide +kernel
theorem zo_189_94 : zzOp 189 94 = some (.ishl, 1) := by unfold zzOp; rw [zm_189]; decide +kernel
theorem zo_189_95 : zzOp 189 95 = some (.ior, 1) := by unfold zzOp; rw [zm_189]; decide +kernel
theorem zo_189_96 : zzOp 189 96 = some (.istore_n 2, 1) := by unfold zzOp; rw [zm_189]; decide +kernel
theorem zo_189_97 : zzOp 189 97 = some (.iinc 3 1, 3) := by unfold zzOp; rw [zm_189]; decide +kernel
theorem zo_189_100 : zzOp 189 100 = some (.goto (-52), 3) := by unfold zzOp; rw [zm_189]; decide +kernel
theorem zo_189_103 : zzOp 189 103 = some (.iconst 0, 1) := by unfold zzOp; rw [zm_189]; decide +kernel
theorem zo_189_104 : zzOp 189 104 = some (.istore_n 3, 1) := by unfold zzOp; rw [zm_189]; decide +kernel
theorem zo_189_105 : zzOp 189 105 = some (.aload_n 0, 1) := by unfold zzOp; rw [zm_189]; decide +kernel
theorem zo_189_106 : zzOp 189 106 = some (.getfield 321, 3) := by unfold zzOp; rw [zm_189]; decide +kernel
theorem zo_189_109 : zzOp 189 109 = some (.istore 4, 2) := by unfold zzOp; rw [zm_189]; decide +kernel
theorem zo_189_111 : zzOp 189 111 = some (.iload 4, 2) := by unfold zzOp; rw [zm_189]; decide +kernel
theorem zo_189_113 : zzOp 189 113 = some (.iconst 2, 1) := by unfold zzOp; rw [zm_189]; decide +kernel
theorem zo_189_114 : zzOp 189 114 = some (.aload_n 0, 1) := by unfold zzOp; rw [zm_189]; decide +kernel
theorem zo_189_115 : zzOp 189 115 = some (.getfield 321, 3) := by unfold zzOp; rw [zm_189]; decide +kernel
theorem zo_189_118 : zzOp 189 118 = some (.imul, 1) := by unfold zzOp; rw [zm_189]; decide +kernel
theorem zo_189_119 : zzOp 189 119 = some (.if_icmp .ge 75, 3) := by unfold zzOp; rw [zm_189]; decide +kernel
theorem zo_189_122 : zzOp 189 122 = some (.aload_n 0, 1) := by unfold zzOp; rw [zm_189]; decide +kernel
theorem zo_189_123 : zzOp 189 123 = some (.getfield 75, 3) := by unfold zzOp; rw [zm_189]; decide +kernel
theorem zo_189_126 : zzOp 189 126 = some (.bipush 40, 2) := by unfold zzOp; rw [zm_189]; decide +kernel
theorem zo_189_128 : zzOp 189 128 = some (.iload_n 1, 1) := by unfold zzOp; rw [zm_189]; decide +kernel
theorem zo_189_129 : zzOp 189 129 = some (.imul, 1) := by unfold zzOp; rw [zm_189]; decide +kernel
theorem zo_189_130 : zzOp 189 130 = some (.iload 4, 2) := by unfold zzOp; rw [zm_189]; decide +kernel
theorem zo_189_132 : zzOp 189 132 = some (.iadd, 1) := by unfold zzOp; rw [zm_189]; decide +kernel
theorem zo_189_133 : zzOp 189 133 = some (.iaload, 1) := by unfold zzOp; rw [zm_189]; decide +kernel
theorem zo_189_134 : zzOp 189 134 = some (.istore 5, 2) := by unfold zzOp; rw [zm_189]; decide +kernel
theorem zo_189_136 : zzOp 189 136 = some (.iload 5, 2) := by unfold zzOp; rw [zm_189]; decide +kernel
theorem zo_189_138 : zzOp 189 138 = some (.invokestatic 126, 3) := by unfold zzOp; rw [zm_189]; decide +kernel
theorem zo_189_141 : zzOp 189 141 = some (.ifCond .eq 38, 3) := by unfold zzOp; rw [zm_189]; decide +kernel
theorem zo_189_144 : zzOp 189 144 = some (.iload_n 3, 1) := by unfold zzOp; rw [zm_189]; decide +kernel
theorem zo_189_145 : zzOp 189 145 = some (.iload 5, 2) := by unfold zzOp; rw [zm_189]; decide +kernel
theorem zo_189_147 : zzOp 189 147 = some (.ishr, 1) := by unfold zzOp; rw [zm_189]; decide +kernel
theorem zo_189_148 : zzOp 189 148 = some (.iconst 1, 1) := by unfold zzOp; rw [zm_189]; decide +kernel
theorem zo_189_149 : zzOp 189 149 = some (.iand, 1) := by unfold zzOp; rw [zm_189]; decide +kernel
theorem zo_189_150 : zzOp 189 150 = some (.iconst 1, 1) := by unfold zzOp; rw [zm_189]; decide +kernel
theorem zo_189_151 : zzOp 189 151 = some (.if_icmp .eq 28, 3) := by unfold zzOp; rw [zm_189]; decide +kernel
theorem zo_189_154 : zzOp 189 154 = some (.aload_n 0, 1) := by unfold zzOp; rw [zm_189]; decide +kernel
theorem zo_189_155 : zzOp 189 155 = some (.getfield 38, 3) := by unfold zzOp; rw [zm_189]; decide +kernel
theorem zo_189_158 : zzOp 189 158 = some (.iload 5, 2) := by unfold zzOp; rw [zm_189]; decide +kernel
theorem zo_189_160 : zzOp 189 160 = some (.iaload, 1) := by unfold zzOp; rw [zm_189]; decide +kernel
theorem zo_189_161 : zzOp 189 161 = some (.iconst (-1), 1) := by unfold zzOp; rw [zm_189]; decide +kernel
theorem zo_189_162 : zzOp 189 162 = some (.if_icmp .eq 19, 3) := by unfold zzOp; rw [zm_189]; decide +kernel
theorem zo_189_165 : zzOp 189 165 = some (.iload_n 2, 1) := by unfold zzOp; rw [zm_189]; decide +kernel
theorem zo_189_166 : zzOp 189 166 = some (.aload_n 0, 1) := by unfold zzOp; rw [zm_189]; decide +kernel
theorem zo_189_167 : zzOp 189 167 = some (.getfield 38, 3) := by unfold zzOp; rw [zm_189]; decide +kernel
theorem zo_189_170 : zzOp 189 170 = some (.iload 5, 2) := by unfold zzOp; rw [zm_189]; decide +kernel
theorem zo_189_172 : zzOp 189 172 = some (.iaload, 1) := by unfold zzOp; rw [zm_189]; decide +kernel
theorem zo_189_173 : zzOp 189 173 = some (.ishr, 1) := by unfold zzOp; rw [zm_189]; decide +kernel
theorem zo_189_174 : zzOp 189 174 = some (.iconst 1, 1) := by unfold zzOp; rw [zm_189]; decide +kernel
theorem zo_189_175 : zzOp 189 175 = some (.iand, 1) := by unfold zzOp; rw [zm_189]; decide +kernel
theorem zo_189_176 : zzOp 189 176 = some (.ifCond .ne 5, 3) := by unfold zzOp; rw [zm_189]; decide +kernel
theorem zo_189_179 : zzOp 189 179 = some (.iconst 0, 1) := by unfold zzOp; rw [zm_189]; decide +kernel
theorem zo_189_180 : zzOp 189 180 = some (.ireturn, 1) := by unfold zzOp; rw [zm_189]; decide +kernel
theorem zo_189_181 : zzOp 189 181 = some (.iload_n 3, 1) := by unfold zzOp; rw [zm_189]; decide +kernel
theorem zo_189_182 : zzOp 189 182 = some (.iconst 1, 1) := by unfold zzOp; rw [zm_189]; decide +kernel
theorem zo_189_183 : zzOp 189 183 = some (.iload 5, 2) := by unfold zzOp; rw [zm_189]; decide +kernel
theorem zo_189_185 : zzOp 189 185 = some (.ishl, 1) := by unfold zzOp; rw [zm_189]; decide +kernel
theorem zo_189_186 : zzOp 189 186 = some (.ior, 1) := by unfold zzOp; rw [zm_189]; decide +kernel
theorem zo_189_187 : zzOp 189 187 = some (.istore_n 3, 1) := by unfold zzOp; rw [zm_189]; decide +kernel
theorem zo_189_188 : zzOp 189 188 = some (.iinc 4 1, 3) := by unfold zzOp; rw [zm_189]; decide +kernel
theorem zo_189_191 : zzOp 189 191 = some (.goto (-80), 3) := by unfold zzOp; rw [zm_189]; decide +kernel
theorem zo_189_194 : zzOp 189 194 = some (.iconst 1, 1) := by unfold zzOp; rw [zm_189]; decide +kernel
theorem zo_189_195 : zzOp 189 195 = some (.ireturn, 1) := by unfold zzOp; rw [zm_189]; decide +kernel
theorem zf_189_38 : zzGet zzFL (zzM 189).2.2.2.2.1 38 = some (7, 13) := by rw [zm_189]; decide +kernel
theorem zf_189_72 : zzGet zzFL (zzM 189).2.2.2.2.1 72 = some (7, 50) := by rw [zm_189]; decide +kernel
theorem zf_189_75 : zzGet zzFL (zzM 189).2.2.2.2.1 75 = some (7, 51) := by rw [zm_189]; decide +kernel
theorem zf_189_321 : zzGet zzFL (zzM 189).2.2.2.2.1 321 = some (7, 37) := by rw [zm_189]; decide +kernel
theorem zl_189_88 : zzGet zzML (zzM 189).2.2.2.2.1 88 = some (0, 136) := by rw [zm_189]; decide +kernel
theorem zl_189_94 : zzGet zzML (zzM 189).2.2.2.2.1 94 = some (2, 140) := by rw [zm_189]; decide +kernel
theorem zl_189_126 : zzGet zzML (zzM 189).2.2.2.2.1 126 = some (0, 141) := by rw [zm_189]; decide +kernel
theorem zc_189_284 : zzGet zzKL (zzM 189).2.2.2.2.1 284 = some (2) := by rw [zm_189]; decide +kernel
theorem zc_189_319 : zzGet zzKL (zzM 189).2.2.2.2.1 319 = some (12) := by rw [zm_189]; decide +kernel
theorem zm_190 : zzM 190 = (yX7_seeks, cX7_seeks, 7, none, 7, 5, 1, zzc_190) := rfl
theorem zr_190 : (zzM 190).2.2.2.1 = none := by rw [zm_190]
theorem zo_190_0 : zzOp 190 0 = some (.iload_n 2, 1) := by unfold zzOp; rw [zm_190]; decide +kernel
theorem zo_190_1 : zzOp 190 1 = some (.aload_n 0, 1) := by unfold zzOp; rw [zm_190]; decide +kernel
theorem zo_190_2 : zzOp 190 2 = some (.getfield 321, 3) := by unfold zzOp; rw [zm_190]; decide +kernel
theorem zo_190_5 : zzOp 190 5 = some (.if_icmp .ne 38, 3) := by unfold zzOp; rw [zm_190]; decide +kernel
theorem zo_190_8 : zzOp 190 8 = some (.aload_n 0, 1) := by unfold zzOp; rw [zm_190]; decide +kernel
theorem zo_190_9 : zzOp 190 9 = some (.invokevirtual 290, 3) := by unfold zzOp; rw [zm_190]; decide +kernel
theorem zo_190_12 : zzOp 190 12 = some (.istore 5, 2) := by unfold zzOp; rw [zm_190]; decide +kernel
theorem zo_190_14 : zzOp 190 14 = some (.aload_n 0, 1) := by unfold zzOp; rw [zm_190]; decide +kernel
theorem zo_190_15 : zzOp 190 15 = some (.getfield 324, 3) := by unfold zzOp; rw [zm_190]; decide +kernel
theorem zo_190_18 : zzOp 190 18 = some (.ifCond .eq 12, 3) := by unfold zzOp; rw [zm_190]; decide +kernel
theorem zo_190_21 : zzOp 190 21 = some (.iload 5, 2) := by unfold zzOp; rw [zm_190]; decide +kernel
theorem zo_190_23 : zzOp 190 23 = some (.aload_n 0, 1) := by unfold zzOp; rw [zm_190]; decide +kernel
theorem zo_190_24 : zzOp 190 24 = some (.getfield 327, 3) := by unfold zzOp; rw [zm_190]; decide +kernel
theorem zo_190_27 : zzOp 190 27 = some (.if_icmp .le 15, 3) := by unfold zzOp; rw [zm_190]; decide +kernel
theorem zo_190_30 : zzOp 190 30 = some (.aload_n 0, 1) := by unfold zzOp; rw [zm_190]; decide +kernel
theorem zo_190_31 : zzOp 190 31 = some (.iload 4, 2) := by unfold zzOp; rw [zm_190]; decide +kernel
theorem zo_190_33 : zzOp 190 33 = some (.putfield 324, 3) := by unfold zzOp; rw [zm_190]; decide +kernel
theorem zo_190_36 : zzOp 190 36 = some (.aload_n 0, 1) := by unfold zzOp; rw [zm_190]; decide +kernel
theorem zo_190_37 : zzOp 190 37 = some (.iload 5, 2) := by unfold zzOp; rw [zm_190]; decide +kernel
theorem zo_190_39 : zzOp 190 39 = some (.putfield 327, 3) := by unfold zzOp; rw [zm_190]; decide +kernel
theorem zo_190_42 : zzOp 190 42 = some (.return_, 1) := by unfold zzOp; rw [zm_190]; decide +kernel
theorem zo_190_43 : zzOp 190 43 = some (.iconst 0, 1) := by unfold zzOp; rw [zm_190]; decide +kernel
theorem zo_190_44 : zzOp 190 44 = some (.istore 5, 2) := by unfold zzOp; rw [zm_190]; decide +kernel
theorem zo_190_46 : zzOp 190 46 = some (.iload 5, 2) := by unfold zzOp; rw [zm_190]; decide +kernel
theorem zo_190_48 : zzOp 190 48 = some (.aload_n 0, 1) := by unfold zzOp; rw [zm_190]; decide +kernel
theorem zo_190_49 : zzOp 190 49 = some (.getfield 321, 3) := by unfold zzOp; rw [zm_190]; decide +kernel
theorem zo_190_52 : zzOp 190 52 = some (.if_icmp .ge 85, 3) := by unfold zzOp; rw [zm_190]; decide +kernel
theorem zo_190_55 : zzOp 190 55 = some (.iload_n 3, 1) := by unfold zzOp; rw [zm_190]; decide +kernel
theorem zo_190_56 : zzOp 190 56 = some (.iload 5, 2) := by unfold zzOp; rw [zm_190]; decide +kernel
theorem zo_190_58 : zzOp 190 58 = some (.ishr, 1) := by unfold zzOp; rw [zm_190]; decide +kernel
theorem zo_190_59 : zzOp 190 59 = some (.iconst 1, 1) := by unfold zzOp; rw [zm_190]; decide +kernel
theorem zo_190_60 : zzOp 190 60 = some (.iand, 1) := by unfold zzOp; rw [zm_190]; decide +kernel
theorem zo_190_61 : zzOp 190 61 = some (.ifCond .ne 70, 3) := by unfold zzOp; rw [zm_190]; decide +kernel
theorem zo_190_64 : zzOp 190 64 = some (.aload_n 0, 1) := by unfold zzOp; rw [zm_190]; decide +kernel
theorem zo_190_65 : zzOp 190 65 = some (.getfield 75, 3) := by unfold zzOp; rw [zm_190]; decide +kernel
theorem zo_190_68 : zzOp 190 68 = some (.bipush 40, 2) := by unfold zzOp; rw [zm_190]; decide +kernel
theorem zo_190_70 : zzOp 190 70 = some (.iload_n 1, 1) := by unfold zzOp; rw [zm_190]; decide +kernel
theorem zo_190_71 : zzOp 190 71 = some (.imul, 1) := by unfold zzOp; rw [zm_190]; decide +kernel
theorem zo_190_72 : zzOp 190 72 = some (.iload 5, 2) := by unfold zzOp; rw [zm_190]; decide +kernel
theorem zo_190_74 : zzOp 190 74 = some (.iadd, 1) := by unfold zzOp; rw [zm_190]; decide +kernel
theorem zo_190_75 : zzOp 190 75 = some (.iaload, 1) := by unfold zzOp; rw [zm_190]; decide +kernel
theorem zo_190_76 : zzOp 190 76 = some (.istore 6, 2) := by unfold zzOp; rw [zm_190]; decide +kernel
theorem zo_190_78 : zzOp 190 78 = some (.aload_n 0, 1) := by unfold zzOp; rw [zm_190]; decide +kernel
theorem zo_190_79 : zzOp 190 79 = some (.iload 6, 2) := by unfold zzOp; rw [zm_190]; decide +kernel
theorem zo_190_81 : zzOp 190 81 = some (.aload_n 0, 1) := by unfold zzOp; rw [zm_190]; decide +kernel
theorem zo_190_82 : zzOp 190 82 = some (.getfield 75, 3) := by unfold zzOp; rw [zm_190]; decide +kernel
theorem zo_190_85 : zzOp 190 85 = some (.bipush 40, 2) := by unfold zzOp; rw [zm_190]; decide +kernel
theorem zo_190_87 : zzOp 190 87 = some (.iload_n 1, 1) := by unfold zzOp; rw [zm_190]; decide +kernel
theorem zo_190_88 : zzOp 190 88 = some (.imul, 1) := by unfold zzOp; rw [zm_190]; decide +kernel
theorem zo_190_89 : zzOp 190 89 = some (.aload_n 0, 1) := by unfold zzOp; rw [zm_190]; decide +kernel
theorem zo_190_90 : zzOp 190 90 = some (.getfield 321, 3) := by unfold zzOp; rw [zm_190]; decide +kernel
theorem zo_190_93 : zzOp 190 93 = some (.iadd, 1) := by unfold zzOp; rw [zm_190]; decide +kernel
theorem zo_190_94 : zzOp 190 94 = some (.iload_n 2, 1) := by unfold zzOp; rw [zm_190]; decide +kernel
theorem zo_190_95 : zzOp 190 95 = some (.iadd, 1) := by unfold zzOp; rw [zm_190]; decide +kernel
theorem zo_190_96 : zzOp 190 96 = some (.iaload, 1) := by unfold zzOp; rw [zm_190]; decide +kernel
theorem zo_190_97 : zzOp 190 97 = some (.invokevirtual 129, 3) := by unfold zzOp; rw [zm_190]; decide +kernel
theorem zo_190_100 : zzOp 190 100 = some (.aload_n 0, 1) := by unfold zzOp; rw [zm_190]; decide +kernel
theorem zo_190_101 : zzOp 190 101 = some (.iload_n 1, 1) := by unfold zzOp; rw [zm_190]; decide +kernel
theorem zo_190_102 : zzOp 190 102 = some (.iload_n 2, 1) := by unfold zzOp; rw [zm_190]; decide +kernel
theorem zo_190_103 : zzOp 190 103 = some (.iconst 1, 1) := by unfold zzOp; rw [zm_190]; decide +kernel
theorem zo_190_104 : zzOp 190 104 = some (.iadd, 1) := by unfold zzOp; rw [zm_190]; decide +kernel
theorem zo_190_105 : zzOp 190 105 = some (.iload_n 3, 1) := by unfold zzOp; rw [zm_190]; decide +kernel
theorem zo_190_106 : zzOp 190 106 = some (.iconst 1, 1) := by unfold zzOp; rw [zm_190]; decide +kernel
theorem zo_190_107 : zzOp 190 107 = some (.iload 5, 2) := by unfold zzOp; rw [zm_190]; decide +kernel
theorem zo_190_109 : zzOp 190 109 = some (.ishl, 1) := by unfold zzOp; rw [zm_190]; decide +kernel
theorem zo_190_110 : zzOp 190 110 = some (.ior, 1) := by unfold zzOp; rw [zm_190]; decide +kernel
theorem zo_190_111 : zzOp 190 111 = some (.bipush 10, 2) := by unfold zzOp; rw [zm_190]; decide +kernel
theorem zo_190_113 : zzOp 190 113 = some (.iload 4, 2) := by unfold zzOp; rw [zm_190]; decide +kernel
theorem zo_190_115 : zzOp 190 115 = some (.imul, 1) := by unfold zzOp; rw [zm_190]; decide +kernel
theorem zo_190_116 : zzOp 190 116 = some (.iload 5, 2) := by unfold zzOp; rw [zm_190]; decide +kernel
theorem zo_190_118 : zzOp 190 118 = some (.iadd, 1) := by unfold zzOp; rw [zm_190]; decide +kernel
theorem zo_190_119 : zzOp 190 119 = some (.iconst 1, 1) := by unfold zzOp; rw [zm_190]; decide +kernel
theorem zo_190_120 : zzOp 190 120 = some (.iadd, 1) := by unfold zzOp; rw [zm_190]; decide +kernel
theorem zo_190_121 : zzOp 190 121 = some (.invokevirtual 330, 3) := by unfold zzOp; rw [zm_190]; decide +kernel
theorem zo_190_124 : zzOp 190 124 = some (.aload_n 0, 1) := by unfold zzOp; rw [zm_190]; decide +kernel
theorem zo_190_125 : zzOp 190 125 = some (.iload 6, 2) := by unfold zzOp; rw [zm_190]; decide +kernel
theorem zo_190_127 : zzOp 190 127 = some (.iconst (-1), 1) := by unfold zzOp; rw [zm_190]; decide +kernel
theorem zo_190_128 : zzOp 190 128 = some (.invokevirtual 129, 3) := by unfold zzOp; rw [zm_190]; decide +kernel
theorem zo_190_131 : zzOp 190 131 = some (.iinc 5 1, 3) := by unfold zzOp; rw [zm_190]; decide +kernel
theorem zo_190_134 : zzOp 190 134 = some (.goto (-88), 3) := by unfold zzOp; rw [zm_190]; decide +kernel
theorem zo_190_137 : zzOp 190 137 = some (.return_, 1) := by unfold zzOp; rw [zm_190]; decide +kernel
theorem zf_190_75 : zzGet zzFL (zzM 190).2.2.2.2.1 75 = some (7, 51) := by rw [zm_190]; decide +kernel
theorem zf_190_321 : zzGet zzFL (zzM 190).2.2.2.2.1 321 = some (7, 37) := by rw [zm_190]; decide +kernel
theorem zf_190_324 : zzGet zzFL (zzM 190).2.2.2.2.1 324 = some (7, 38) := by rw [zm_190]; decide +kernel
theorem zf_190_327 : zzGet zzFL (zzM 190).2.2.2.2.1 327 = some (7, 39) := by rw [zm_190]; decide +kernel
theorem zl_190_129 : zzGet zzML (zzM 190).2.2.2.2.1 129 = some (2, 146) := by rw [zm_190]; decide +kernel
theorem zl_190_290 : zzGet zzML (zzM 190).2.2.2.2.1 290 = some (2, 179) := by rw [zm_190]; decide +kernel
theorem zl_190_330 : zzGet zzML (zzM 190).2.2.2.2.1 330 = some (2, 190) := by rw [zm_190]; decide +kernel
theorem zm_191 : zzM 191 = (yX7_stands, cX7_stands, 2, none, 7, 1, 1, zzc_191) := rfl
theorem zr_191 : (zzM 191).2.2.2.1 = none := by rw [zm_191]
theorem zo_191_0 : zzOp 191 0 = some (.iconst 0, 1) := by unfold zzOp; rw [zm_191]; decide +kernel
theorem zo_191_1 : zzOp 191 1 = some (.istore_n 1, 1) := by unfold zzOp; rw [zm_191]; decide +kernel
theorem zo_191_2 : zzOp 191 2 = some (.iload_n 1, 1) := by unfold zzOp; rw [zm_191]; decide +kernel
theorem zo_191_3 : zzOp 191 3 = some (.aload_n 0, 1) := by unfold zzOp; rw [zm_191]; decide +kernel
theorem zo_191_4 : zzOp 191 4 = some (.getfield 85, 3) := by unfold zzOp; rw [zm_191]; decide +kernel
theorem zo_191_7 : zzOp 191 7 = some (.if_icmp .ge 21, 3) := by unfold zzOp; rw [zm_191]; decide +kernel
theorem zo_191_10 : zzOp 191 10 = some (.aload_n 0, 1) := by unfold zzOp; rw [zm_191]; decide +kernel
theorem zo_191_11 : zzOp 191 11 = some (.getfield 50, 3) := by unfold zzOp; rw [zm_191]; decide +kernel
theorem zo_191_14 : zzOp 191 14 = some (.iload_n 1, 1) := by unfold zzOp; rw [zm_191]; decide +kernel
theorem zo_191_15 : zzOp 191 15 = some (.aload_n 0, 1) := by unfold zzOp; rw [zm_191]; decide +kernel
theorem zo_191_16 : zzOp 191 16 = some (.getfield 35, 3) := by unfold zzOp; rw [zm_191]; decide +kernel
theorem zo_191_19 : zzOp 191 19 = some (.iload_n 1, 1) := by unfold zzOp; rw [zm_191]; decide +kernel
theorem zo_191_20 : zzOp 191 20 = some (.iaload, 1) := by unfold zzOp; rw [zm_191]; decide +kernel
theorem zo_191_21 : zzOp 191 21 = some (.iastore, 1) := by unfold zzOp; rw [zm_191]; decide +kernel
theorem zo_191_22 : zzOp 191 22 = some (.iinc 1 1, 3) := by unfold zzOp; rw [zm_191]; decide +kernel
theorem zo_191_25 : zzOp 191 25 = some (.goto (-23), 3) := by unfold zzOp; rw [zm_191]; decide +kernel
theorem zo_191_28 : zzOp 191 28 = some (.return_, 1) := by unfold zzOp; rw [zm_191]; decide +kernel
theorem zf_191_35 : zzGet zzFL (zzM 191).2.2.2.2.1 35 = some (7, 12) := by rw [zm_191]; decide +kernel
theorem zf_191_50 : zzGet zzFL (zzM 191).2.2.2.2.1 50 = some (7, 40) := by rw [zm_191]; decide +kernel
theorem zf_191_85 : zzGet zzFL (zzM 191).2.2.2.2.1 85 = some (7, 14) := by rw [zm_191]; decide +kernel
theorem zm_192 : zzM 192 = (yX7_sitsAgain, cX7_sitsAgain, 2, none, 7, 1, 1, zzc_192) := rfl
theorem zr_192 : (zzM 192).2.2.2.1 = none := by rw [zm_192]
theorem zo_192_0 : zzOp 192 0 = some (.iconst 0, 1) := by unfold zzOp; rw [zm_192]; decide +kernel
theorem zo_192_1 : zzOp 192 1 = some (.istore_n 1, 1) := by unfold zzOp; rw [zm_192]; decide +kernel
theorem zo_192_2 : zzOp 192 2 = some (.iload_n 1, 1) := by unfold zzOp; rw [zm_192]; decide +kernel
theorem zo_192_3 : zzOp 192 3 = some (.aload_n 0, 1) := by unfold zzOp; rw [zm_192]; decide +kernel
theorem zo_192_4 : zzOp 192 4 = some (.getfield 85, 3) := by unfold zzOp; rw [zm_192]; decide +kernel
theorem zo_192_7 : zzOp 192 7 = some (.if_icmp .ge 15, 3) := by unfold zzOp; rw [zm_192]; decide +kernel
theorem zo_192_10 : zzOp 192 10 = some (.aload_n 0, 1) := by unfold zzOp; rw [zm_192]; decide +kernel
theorem zo_192_11 : zzOp 192 11 = some (.iload_n 1, 1) := by unfold zzOp; rw [zm_192]; decide +kernel
theorem zo_192_12 : zzOp 192 12 = some (.iconst (-1), 1) := by unfold zzOp; rw [zm_192]; decide +kernel
theorem zo_192_13 : zzOp 192 13 = some (.invokevirtual 129, 3) := by unfold zzOp; rw [zm_192]; decide +kernel
theorem zo_192_16 : zzOp 192 16 = some (.iinc 1 1, 3) := by unfold zzOp; rw [zm_192]; decide +kernel
theorem zo_192_19 : zzOp 192 19 = some (.goto (-17), 3) := by unfold zzOp; rw [zm_192]; decide +kernel
theorem zo_192_22 : zzOp 192 22 = some (.iconst 0, 1) := by unfold zzOp; rw [zm_192]; decide +kernel
theorem zo_192_23 : zzOp 192 23 = some (.istore_n 1, 1) := by unfold zzOp; rw [zm_192]; decide +kernel
theorem zo_192_24 : zzOp 192 24 = some (.iload_n 1, 1) := by unfold zzOp; rw [zm_192]; decide +kernel
theorem zo_192_25 : zzOp 192 25 = some (.aload_n 0, 1) := by unfold zzOp; rw [zm_192]; decide +kernel
theorem zo_192_26 : zzOp 192 26 = some (.getfield 85, 3) := by unfold zzOp; rw [zm_192]; decide +kernel
theorem zo_192_29 : zzOp 192 29 = some (.if_icmp .ge 20, 3) := by unfold zzOp; rw [zm_192]; decide +kernel
theorem zo_192_32 : zzOp 192 32 = some (.aload_n 0, 1) := by unfold zzOp; rw [zm_192]; decide +kernel
theorem zo_192_33 : zzOp 192 33 = some (.iload_n 1, 1) := by unfold zzOp; rw [zm_192]; decide +kernel
theorem zo_192_34 : zzOp 192 34 = some (.aload_n 0, 1) := by unfold zzOp; rw [zm_192]; decide +kernel
theorem zo_192_35 : zzOp 192 35 = some (.getfield 50, 3) := by unfold zzOp; rw [zm_192]; decide +kernel
theorem zo_192_38 : zzOp 192 38 = some (.iload_n 1, 1) := by unfold zzOp; rw [zm_192]; decide +kernel
theorem zo_192_39 : zzOp 192 39 = some (.iaload, 1) := by unfold zzOp; rw [zm_192]; decide +kernel
theorem zo_192_40 : zzOp 192 40 = some (.invokevirtual 129, 3) := by unfold zzOp; rw [zm_192]; decide +kernel
theorem zo_192_43 : zzOp 192 43 = some (.iinc 1 1, 3) := by unfold zzOp; rw [zm_192]; decide +kernel
theorem zo_192_46 : zzOp 192 46 = some (.goto (-22), 3) := by unfold zzOp; rw [zm_192]; decide +kernel
theorem zo_192_49 : zzOp 192 49 = some (.return_, 1) := by unfold zzOp; rw [zm_192]; decide +kernel
theorem zf_192_50 : zzGet zzFL (zzM 192).2.2.2.2.1 50 = some (7, 40) := by rw [zm_192]; decide +kernel
theorem zf_192_85 : zzGet zzFL (zzM 192).2.2.2.2.1 85 = some (7, 14) := by rw [zm_192]; decide +kernel
theorem zl_192_129 : zzGet zzML (zzM 192).2.2.2.2.1 129 = some (2, 146) := by rw [zm_192]; decide +kernel
theorem zm_193 : zzM 193 = (yX7_hat, cX7_hat, 4, (some .int), 7, 3, 1, zzc_193) := rfl
theorem zr_193 : (zzM 193).2.2.2.1 = (some .int) := by rw [zm_193]
theorem zo_193_0 : zzOp 193 0 = some (.iload_n 1, 1) := by unfold zzOp; rw [zm_193]; decide +kernel
theorem zo_193_1 : zzOp 193 1 = some (.invokestatic 334, 3) := by unfold zzOp; rw [zm_193]; decide +kernel
theorem zo_193_4 : zzOp 193 4 = some (.ifCond .eq 30, 3) := by unfold zzOp; rw [zm_193]; decide +kernel
theorem zo_193_7 : zzOp 193 7 = some (.iload_n 2, 1) := by unfold zzOp; rw [zm_193]; decide +kernel
theorem zo_193_8 : zzOp 193 8 = some (.i2l, 1) := by unfold zzOp; rw [zm_193]; decide +kernel
theorem zo_193_9 : zzOp 193 9 = some (.lconst 0, 1) := by unfold zzOp; rw [zm_193]; decide +kernel
theorem zo_193_10 : zzOp 193 10 = some (.lconst 1, 1) := by unfold zzOp; rw [zm_193]; decide +kernel
theorem zo_193_11 : zzOp 193 11 = some (.invokestatic 88, 3) := by unfold zzOp; rw [zm_193]; decide +kernel
theorem zo_193_14 : zzOp 193 14 = some (.ifCond .eq 20, 3) := by unfold zzOp; rw [zm_193]; decide +kernel
theorem zo_193_17 : zzOp 193 17 = some (.aload_n 0, 1) := by unfold zzOp; rw [zm_193]; decide +kernel
theorem zo_193_18 : zzOp 193 18 = some (.getfield 65, 3) := by unfold zzOp; rw [zm_193]; decide +kernel
theorem zo_193_21 : zzOp 193 21 = some (.iload_n 1, 1) := by unfold zzOp; rw [zm_193]; decide +kernel
theorem zo_193_22 : zzOp 193 22 = some (.baload, 1) := by unfold zzOp; rw [zm_193]; decide +kernel
theorem zo_193_23 : zzOp 193 23 = some (.ifCond .eq 11, 3) := by unfold zzOp; rw [zm_193]; decide +kernel
theorem zo_193_26 : zzOp 193 26 = some (.aload_n 0, 1) := by unfold zzOp; rw [zm_193]; decide +kernel
theorem zo_193_27 : zzOp 193 27 = some (.iload_n 1, 1) := by unfold zzOp; rw [zm_193]; decide +kernel
theorem zo_193_28 : zzOp 193 28 = some (.invokevirtual 337, 3) := by unfold zzOp; rw [zm_193]; decide +kernel
theorem zo_193_31 : zzOp 193 31 = some (.ifCond .ne 7, 3) := by unfold zzOp; rw [zm_193]; decide +kernel
theorem zo_193_34 : zzOp 193 34 = some (.ldc_w 286, 3) := by unfold zzOp; rw [zm_193]; decide +kernel
theorem zo_193_37 : zzOp 193 37 = some (.ireturn, 1) := by unfold zzOp; rw [zm_193]; decide +kernel
theorem zo_193_38 : zzOp 193 38 = some (.aload_n 0, 1) := by unfold zzOp; rw [zm_193]; decide +kernel
theorem zo_193_39 : zzOp 193 39 = some (.invokevirtual 340, 3) := by unfold zzOp; rw [zm_193]; decide +kernel
theorem zo_193_42 : zzOp 193 42 = some (.iconst 0, 1) := by unfold zzOp; rw [zm_193]; decide +kernel
theorem zo_193_43 : zzOp 193 43 = some (.istore_n 3, 1) := by unfold zzOp; rw [zm_193]; decide +kernel
theorem zo_193_44 : zzOp 193 44 = some (.iload_n 3, 1) := by unfold zzOp; rw [zm_193]; decide +kernel
theorem zo_193_45 : zzOp 193 45 = some (.aload_n 0, 1) := by unfold zzOp; rw [zm_193]; decide +kernel
theorem zo_193_46 : zzOp 193 46 = some (.getfield 321, 3) := by unfold zzOp; rw [zm_193]; decide +kernel
theorem zo_193_49 : zzOp 193 49 = some (.if_icmp .ge 25, 3) := by unfold zzOp; rw [zm_193]; decide +kernel
theorem zo_193_52 : zzOp 193 52 = some (.aload_n 0, 1) := by unfold zzOp; rw [zm_193]; decide +kernel
theorem zo_193_53 : zzOp 193 53 = some (.aload_n 0, 1) := by unfold zzOp; rw [zm_193]; decide +kernel
theorem zo_193_54 : zzOp 193 54 = some (.getfield 75, 3) := by unfold zzOp; rw [zm_193]; decide +kernel
theorem zo_193_57 : zzOp 193 57 = some (.bipush 40, 2) := by unfold zzOp; rw [zm_193]; decide +kernel
theorem zo_193_59 : zzOp 193 59 = some (.iload_n 1, 1) := by unfold zzOp; rw [zm_193]; decide +kernel
theorem zo_193_60 : zzOp 193 60 = some (.imul, 1) := by unfold zzOp; rw [zm_193]; decide +kernel
theorem zo_193_61 : zzOp 193 61 = some (.iload_n 3, 1) := by unfold zzOp; rw [zm_193]; decide +kernel
theorem zo_193_62 : zzOp 193 62 = some (.iadd, 1) := by unfold zzOp; rw [zm_193]; decide +kernel
theorem zo_193_63 : zzOp 193 63 = some (.iaload, 1) := by unfold zzOp; rw [zm_193]; decide +kernel
theorem zo_193_64 : zzOp 193 64 = some (.iconst (-1), 1) := by unfold zzOp; rw [zm_193]; decide +kernel
theorem zo_193_65 : zzOp 193 65 = some (.invokevirtual 129, 3) := by unfold zzOp; rw [zm_193]; decide +kernel
theorem zo_193_68 : zzOp 193 68 = some (.iinc 3 1, 3) := by unfold zzOp; rw [zm_193]; decide +kernel
theorem zo_193_71 : zzOp 193 71 = some (.goto (-27), 3) := by unfold zzOp; rw [zm_193]; decide +kernel
theorem zo_193_74 : zzOp 193 74 = some (.aload_n 0, 1) := by unfold zzOp; rw [zm_193]; decide +kernel
theorem zo_193_75 : zzOp 193 75 = some (.iconst 0, 1) := by unfold zzOp; rw [zm_193]; decide +kernel
theorem zo_193_76 : zzOp 193 76 = some (.putfield 324, 3) := by unfold zzOp; rw [zm_193]; decide +kernel
theorem zo_193_79 : zzOp 193 79 = some (.aload_n 0, 1) := by unfold zzOp; rw [zm_193]; decide +kernel
theorem zo_193_80 : zzOp 193 80 = some (.iconst 0, 1) := by unfold zzOp; rw [zm_193]; decide +kernel
theorem zo_193_81 : zzOp 193 81 = some (.putfield 327, 3) := by unfold zzOp; rw [zm_193]; decide +kernel
theorem zo_193_84 : zzOp 193 84 = some (.aload_n 0, 1) := by unfold zzOp; rw [zm_193]; decide +kernel
theorem zo_193_85 : zzOp 193 85 = some (.iload_n 1, 1) := by unfold zzOp; rw [zm_193]; decide +kernel
theorem zo_193_86 : zzOp 193 86 = some (.iconst 0, 1) := by unfold zzOp; rw [zm_193]; decide +kernel
theorem zo_193_87 : zzOp 193 87 = some (.iconst 0, 1) := by unfold zzOp; rw [zm_193]; decide +kernel
theorem zo_193_88 : zzOp 193 88 = some (.iconst 0, 1) := by unfold zzOp; rw [zm_193]; decide +kernel
theorem zo_193_89 : zzOp 193 89 = some (.invokevirtual 330, 3) := by unfold zzOp; rw [zm_193]; decide +kernel
theorem zo_193_92 : zzOp 193 92 = some (.aload_n 0, 1) := by unfold zzOp; rw [zm_193]; decide +kernel
theorem zo_193_93 : zzOp 193 93 = some (.invokevirtual 343, 3) := by unfold zzOp; rw [zm_193]; decide +kernel
theorem zo_193_96 : zzOp 193 96 = some (.iload_n 2, 1) := by unfold zzOp; rw [zm_193]; decide +kernel
theorem zo_193_97 : zzOp 193 97 = some (.ifCond .ne 10, 3) := by unfold zzOp; rw [zm_193]; decide +kernel
theorem zo_193_100 : zzOp 193 100 = some (.aload_n 0, 1) := by unfold zzOp; rw [zm_193]; decide +kernel
theorem zo_193_101 : zzOp 193 101 = some (.getfield 327, 3) := by unfold zzOp; rw [zm_193]; decide +kernel
theorem zo_193_104 : zzOp 193 104 = some (.goto 7, 3) := by unfold zzOp; rw [zm_193]; decide +kernel
theorem zo_193_107 : zzOp 193 107 = some (.aload_n 0, 1) := by unfold zzOp; rw [zm_193]; decide +kernel
theorem zo_193_108 : zzOp 193 108 = some (.getfield 324, 3) := by unfold zzOp; rw [zm_193]; decide +kernel
theorem zo_193_111 : zzOp 193 111 = some (.ireturn, 1) := by unfold zzOp; rw [zm_193]; decide +kernel
theorem zf_193_65 : zzGet zzFL (zzM 193).2.2.2.2.1 65 = some (7, 48) := by rw [zm_193]; decide +kernel
theorem zf_193_75 : zzGet zzFL (zzM 193).2.2.2.2.1 75 = some (7, 51) := by rw [zm_193]; decide +kernel
theorem zf_193_321 : zzGet zzFL (zzM 193).2.2.2.2.1 321 = some (7, 37) := by rw [zm_193]; decide +kernel
theorem zf_193_324 : zzGet zzFL (zzM 193).2.2.2.2.1 324 = some (7, 38) := by rw [zm_193]; decide +kernel
theorem zf_193_327 : zzGet zzFL (zzM 193).2.2.2.2.1 327 = some (7, 39) := by rw [zm_193]; decide +kernel
theorem zl_193_88 : zzGet zzML (zzM 193).2.2.2.2.1 88 = some (0, 136) := by rw [zm_193]; decide +kernel
theorem zl_193_129 : zzGet zzML (zzM 193).2.2.2.2.1 129 = some (2, 146) := by rw [zm_193]; decide +kernel
theorem zl_193_330 : zzGet zzML (zzM 193).2.2.2.2.1 330 = some (2, 190) := by rw [zm_193]; decide +kernel
theorem zl_193_334 : zzGet zzML (zzM 193).2.2.2.2.1 334 = some (0, 206) := by rw [zm_193]; decide +kernel
theorem zl_193_337 : zzGet zzML (zzM 193).2.2.2.2.1 337 = some (2, 189) := by rw [zm_193]; decide +kernel
theorem zl_193_340 : zzGet zzML (zzM 193).2.2.2.2.1 340 = some (2, 191) := by rw [zm_193]; decide +kernel
theorem zl_193_343 : zzGet zzML (zzM 193).2.2.2.2.1 343 = some (2, 192) := by rw [zm_193]; decide +kernel
theorem zc_193_286 : zzGet zzKI (zzM 193).2.2.2.2.1 286 = some (-100000) := by rw [zm_193]; decide +kernel
theorem zc_193_286n : zzGet zzKS (zzM 193).2.2.2.2.1 286 = none := by rw [zm_193]; decide +kernel
theorem zm_194 : zzM 194 = (yX7_front, cX7_front, 6, (some .int), 7, 3, 1, zzc_194) := rfl
theorem zr_194 : (zzM 194).2.2.2.1 = (some .int) := by rw [zm_194]
theorem zo_194_0 : zzOp 194 0 = some (.iload_n 1, 1) := by unfold zzOp; rw [zm_194]; decide +kernel
theorem zo_194_1 : zzOp 194 1 = some (.i2l, 1) := by unfold zzOp; rw [zm_194]; decide +kernel
theorem zo_194_2 : zzOp 194 2 = some (.lconst 0, 1) := by unfold zzOp; rw [zm_194]; decide +kernel
theorem zo_194_3 : zzOp 194 3 = some (.ldc2_w 253, 3) := by unfold zzOp; rw [zm_194]; decide +kernel
theorem zo_194_6 : zzOp 194 6 = some (.invokestatic 88, 3) := by unfold zzOp; rw [zm_194]; decide +kernel
theorem zo_194_9 : zzOp 194 9 = some (.ifCond .eq 13, 3) := by unfold zzOp; rw [zm_194]; decide +kernel
theorem zo_194_12 : zzOp 194 12 = some (.iload_n 2, 1) := by unfold zzOp; rw [zm_194]; decide +kernel
theorem zo_194_13 : zzOp 194 13 = some (.i2l, 1) := by unfold zzOp; rw [zm_194]; decide +kernel
theorem zo_194_14 : zzOp 194 14 = some (.lconst 0, 1) := by unfold zzOp; rw [zm_194]; decide +kernel
theorem zo_194_15 : zzOp 194 15 = some (.lconst 1, 1) := by unfold zzOp; rw [zm_194]; decide +kernel
theorem zo_194_16 : zzOp 194 16 = some (.invokestatic 88, 3) := by unfold zzOp; rw [zm_194]; decide +kernel
theorem zo_194_19 : zzOp 194 19 = some (.ifCond .ne 6, 3) := by unfold zzOp; rw [zm_194]; decide +kernel
theorem zo_194_22 : zzOp 194 22 = some (.bipush (-2), 2) := by unfold zzOp; rw [zm_194]; decide +kernel
theorem zo_194_24 : zzOp 194 24 = some (.ireturn, 1) := by unfold zzOp; rw [zm_194]; decide +kernel
theorem zo_194_25 : zzOp 194 25 = some (.aload_n 0, 1) := by unfold zzOp; rw [zm_194]; decide +kernel
theorem zo_194_26 : zzOp 194 26 = some (.iload_n 1, 1) := by unfold zzOp; rw [zm_194]; decide +kernel
theorem zo_194_27 : zzOp 194 27 = some (.iconst (-1), 1) := by unfold zzOp; rw [zm_194]; decide +kernel
theorem zo_194_28 : zzOp 194 28 = some (.invokevirtual 301, 3) := by unfold zzOp; rw [zm_194]; decide +kernel
theorem zo_194_31 : zzOp 194 31 = some (.aload_n 0, 1) := by unfold zzOp; rw [zm_194]; decide +kernel
theorem zo_194_32 : zzOp 194 32 = some (.iconst (-1), 1) := by unfold zzOp; rw [zm_194]; decide +kernel
theorem zo_194_33 : zzOp 194 33 = some (.putfield 304, 3) := by unfold zzOp; rw [zm_194]; decide +kernel
theorem zo_194_36 : zzOp 194 36 = some (.aload_n 0, 1) := by unfold zzOp; rw [zm_194]; decide +kernel
theorem zo_194_37 : zzOp 194 37 = some (.aload_n 0, 1) := by unfold zzOp; rw [zm_194]; decide +kernel
theorem zo_194_38 : zzOp 194 38 = some (.getfield 293, 3) := by unfold zzOp; rw [zm_194]; decide +kernel
theorem zo_194_41 : zzOp 194 41 = some (.putfield 307, 3) := by unfold zzOp; rw [zm_194]; decide +kernel
theorem zo_194_44 : zzOp 194 44 = some (.iconst (-1), 1) := by unfold zzOp; rw [zm_194]; decide +kernel
theorem zo_194_45 : zzOp 194 45 = some (.istore_n 3, 1) := by unfold zzOp; rw [zm_194]; decide +kernel
theorem zo_194_46 : zzOp 194 46 = some (.iconst 3, 1) := by unfold zzOp; rw [zm_194]; decide +kernel
theorem zo_194_47 : zzOp 194 47 = some (.istore 4, 2) := by unfold zzOp; rw [zm_194]; decide +kernel
theorem zo_194_49 : zzOp 194 49 = some (.iload 4, 2) := by unfold zzOp; rw [zm_194]; decide +kernel
theorem zo_194_51 : zzOp 194 51 = some (.ifCond .lt 27, 3) := by unfold zzOp; rw [zm_194]; decide +kernel
theorem zo_194_54 : zzOp 194 54 = some (.aload_n 0, 1) := by unfold zzOp; rw [zm_194]; decide +kernel
theorem zo_194_55 : zzOp 194 55 = some (.getfield 38, 3) := by unfold zzOp; rw [zm_194]; decide +kernel
theorem zo_194_58 : zzOp 194 58 = some (.iload 4, 2) := by unfold zzOp; rw [zm_194]; decide +kernel
theorem zo_194_60 : zzOp 194 60 = some (.iaload, 1) := by unfold zzOp; rw [zm_194]; decide +kernel
theorem zo_194_61 : zzOp 194 61 = some (.iconst (-1), 1) := by unfold zzOp; rw [zm_194]; decide +kernel
theorem zo_194_62 : zzOp 194 62 = some (.if_icmp .ne 8, 3) := by unfold zzOp; rw [zm_194]; decide +kernel
theorem zo_194_65 : zzOp 194 65 = some (.iload 4, 2) := by unfold zzOp; rw [zm_194]; decide +kernel
theorem zo_194_67 : zzOp 194 67 = some (.goto 4, 3) := by unfold zzOp; rw [zm_194]; decide +kernel
theorem zo_194_70 : zzOp 194 70 = some (.iload_n 3, 1) := by unfold zzOp; rw [zm_194]; decide +kernel
theorem zo_194_71 : zzOp 194 71 = some (.istore_n 3, 1) := by unfold zzOp; rw [zm_194]; decide +kernel
theorem zo_194_72 : zzOp 194 72 = some (.iinc 4 (-1), 3) := by unfold zzOp; rw [zm_194]; decide +kernel
theorem zo_194_75 : zzOp 194 75 = some (.goto (-26), 3) := by unfold zzOp; rw [zm_194]; decide +kernel
theorem zo_194_78 : zzOp 194 78 = some (.iconst 0, 1) := by unfold zzOp; rw [zm_194]; decide +kernel
theorem zo_194_79 : zzOp 194 79 = some (.istore 4, 2) := by unfold zzOp; rw [zm_194]; decide +kernel
theorem zo_194_81 : zzOp 194 81 = some (.iload 4, 2) := by unfold zzOp; rw [zm_194]; decide +kernel
theorem zo_194_83 : zzOp 194 83 = some (.aload_n 0, 1) := by unfold zzOp; rw [zm_194]; decide +kernel
theorem zo_194_84 : zzOp 194 84 = some (.getfield 85, 3) := by unfold zzOp; rw [zm_194]; decide +kernel
theorem zo_194_87 : zzOp 194 87 = some (.if_icmp .ge 75, 3) := by unfold zzOp; rw [zm_194]; decide +kernel
theorem zo_194_90 : zzOp 194 90 = some (.iload_n 3, 1) := by unfold zzOp; rw [zm_194]; decide +kernel
theorem zo_194_91 : zzOp 194 91 = some (.iconst (-1), 1) := by unfold zzOp; rw [zm_194]; decide +kernel
theorem zo_194_92 : zzOp 194 92 = some (.if_icmp .eq 70, 3) := by unfold zzOp; rw [zm_194]; decide +kernel
theorem zo_194_95 : zzOp 194 95 = some (.aload_n 0, 1) := by unfold zzOp; rw [zm_194]; decide +kernel
theorem zo_194_96 : zzOp 194 96 = some (.getfield 35, 3) := by unfold zzOp; rw [zm_194]; decide +kernel
theorem zo_194_99 : zzOp 194 99 = some (.iload 4, 2) := by unfold zzOp; rw [zm_194]; decide +kernel
theorem zo_194_101 : zzOp 194 101 = some (.iaload, 1) := by unfold zzOp; rw [zm_194]; decide +kernel
theorem zo_194_102 : zzOp 194 102 = some (.istore 5, 2) := by unfold zzOp; rw [zm_194]; decide +kernel
theorem zo_194_104 : zzOp 194 104 = some (.iload 5, 2) := by unfold zzOp; rw [zm_194]; decide +kernel
theorem zo_194_106 : zzOp 194 106 = some (.iconst (-1), 1) := by unfold zzOp; rw [zm_194]; decide +kernel
theorem zo_194_107 : zzOp 194 107 = some (.if_icmp .eq 49, 3) := by unfold zzOp; rw [zm_194]; decide +kernel
theorem zo_194_110 : zzOp 194 110 = some (.aload_n 0, 1) := by unfold zzOp; rw [zm_194]; decide +kernel
theorem zo_194_111 : zzOp 194 111 = some (.iload 4, 2) := by unfold zzOp; rw [zm_194]; decide +kernel
theorem zo_194_113 : zzOp 194 113 = some (.iload_n 3, 1) := by unfold zzOp; rw [zm_194]; decide +kernel
theorem zo_194_114 : zzOp 194 114 = some (.invokevirtual 129, 3) := by unfold zzOp; rw [zm_194]; decide +kernel
theorem zo_194_117 : zzOp 194 117 = some (.aload_n 0, 1) := by unfold zzOp; rw [zm_194]; decide +kernel
theorem zo_194_118 : zzOp 194 118 = some (.iload_n 1, 1) := by unfold zzOp; rw [zm_194]; decide +kernel
theorem zo_194_119 : zzOp 194 119 = some (.iconst (-1), 1) := by unfold zzOp; rw [zm_194]; decide +kernel
theorem zo_194_120 : zzOp 194 120 = some (.invokevirtual 301, 3) := by unfold zzOp; rw [zm_194]; decide +kernel
theorem zo_194_123 : zzOp 194 123 = some (.aload_n 0, 1) := by unfold zzOp; rw [zm_194]; decide +kernel
theorem zo_194_124 : zzOp 194 124 = some (.iload 4, 2) := by unfold zzOp; rw [zm_194]; decide +kernel
theorem zo_194_126 : zzOp 194 126 = some (.iload 5, 2) := by unfold zzOp; rw [zm_194]; decide +kernel
theorem zo_194_128 : zzOp 194 128 = some (.invokevirtual 129, 3) := by unfold zzOp; rw [zm_194]; decide +kernel
theorem zo_194_131 : zzOp 194 131 = some (.aload_n 0, 1) := by unfold zzOp; rw [zm_194]; decide +kernel
theorem zo_194_132 : zzOp 194 132 = some (.getfield 293, 3) := by unfold zzOp; rw [zm_194]; decide +kernel
theorem zo_194_135 : zzOp 194 135 = some (.aload_n 0, 1) := by unfold zzOp; rw [zm_194]; decide +kernel
theorem zo_194_136 : zzOp 194 136 = some (.getfield 307, 3) := by unfold zzOp; rw [zm_194]; decide +kernel
theorem zo_194_139 : zzOp 194 139 = some (.if_icmp .ge 17, 3) := by unfold zzOp; rw [zm_194]; decide +kernel
theorem zo_194_142 : zzOp 194 142 = some (.aload_n 0, 1) := by unfold zzOp; rw [zm_194]; decide +kernel
theorem zo_194_143 : zzOp 194 143 = some (.iload 4, 2) := by unfold zzOp; rw [zm_194]; decide +kernel
theorem zo_194_145 : zzOp 194 145 = some (.putfield 304, 3) := by unfold zzOp; rw [zm_194]; decide +kernel
theorem zo_194_148 : zzOp 194 148 = some (.aload_n 0, 1) := by unfold zzOp; rw [zm_194]; decide +kernel
theorem zo_194_149 : zzOp 194 149 = some (.aload_n 0, 1) := by unfold zzOp; rw [zm_194]; decide +kernel
theorem zo_194_150 : zzOp 194 150 = some (.getfield 293, 3) := by unfold zzOp; rw [zm_194]; decide +kernel
theorem zo_194_153 : zzOp 194 153 = some (.putfield 307, 3) := by unfold zzOp; rw [zm_194]; decide +kernel
theorem zo_194_156 : zzOp 194 156 = some (.iinc 4 1, 3) := by unfold zzOp; rw [zm_194]; decide +kernel
theorem zo_194_159 : zzOp 194 159 = some (.goto (-78), 3) := by unfold zzOp; rw [zm_194]; decide +kernel
theorem zo_194_162 : zzOp 194 162 = some (.iload_n 2, 1) := by unfold zzOp; rw [zm_194]; decide +kernel
theorem zo_194_163 : zzOp 194 163 = some (.ifCond .ne 10, 3) := by unfold zzOp; rw [zm_194]; decide +kernel
theorem zo_194_166 : zzOp 194 166 = some (.aload_n 0, 1) := by unfold zzOp; rw [zm_194]; decide +kernel
theorem zo_194_167 : zzOp 194 167 = some (.getfield 304, 3) := by unfold zzOp; rw [zm_194]; decide +kernel
theorem zo_194_170 : zzOp 194 170 = some (.goto 7, 3) := by unfold zzOp; rw [zm_194]; decide +kernel
theorem zo_194_173 : zzOp 194 173 = some (.aload_n 0, 1) := by unfold zzOp; rw [zm_194]; decide +kernel
theorem zo_194_174 : zzOp 194 174 = some (.getfield 307, 3) := by unfold zzOp; rw [zm_194]; decide +kernel
theorem zo_194_177 : zzOp 194 177 = some (.ireturn, 1) := by unfold zzOp; rw [zm_194]; decide +kernel
theorem zf_194_35 : zzGet zzFL (zzM 194).2.2.2.2.1 35 = some (7, 12) := by rw [zm_194]; decide +kernel
theorem zf_194_38 : zzGet zzFL (zzM 194).2.2.2.2.1 38 = some (7, 13) := by rw [zm_194]; decide +kernel
theorem zf_194_85 : zzGet zzFL (zzM 194).2.2.2.2.1 85 = some (7, 14) := by rw [zm_194]; decide +kernel
theorem zf_194_293 : zzGet zzFL (zzM 194).2.2.2.2.1 293 = some (7, 33) := by rw [zm_194]; decide +kernel
theorem zf_194_304 : zzGet zzFL (zzM 194).2.2.2.2.1 304 = some (7, 35) := by rw [zm_194]; decide +kernel
theorem zf_194_307 : zzGet zzFL (zzM 194).2.2.2.2.1 307 = some (7, 36) := by rw [zm_194]; decide +kernel
theorem zl_194_88 : zzGet zzML (zzM 194).2.2.2.2.1 88 = some (0, 136) := by rw [zm_194]; decide +kernel
theorem zl_194_129 : zzGet zzML (zzM 194).2.2.2.2.1 129 = some (2, 146) := by rw [zm_194]; decide +kernel
theorem zl_194_301 : zzGet zzML (zzM 194).2.2.2.2.1 301 = some (2, 181) := by rw [zm_194]; decide +kernel
theorem zc_194_253 : zzGet zzKL (zzM 194).2.2.2.2.1 253 = some (60) := by rw [zm_194]; decide +kernel
theorem zm_195 : zzM 195 = (yX7_stop, cX7_stop, 4, (some .int), 7, 3, 1, zzc_195) := rfl
theorem zr_195 : (zzM 195).2.2.2.1 = (some .int) := by rw [zm_195]
theorem zo_195_0 : zzOp 195 0 = some (.iload_n 1, 1) := by unfold zzOp; rw [zm_195]; decide +kernel
theorem zo_195_1 : zzOp 195 1 = some (.i2l, 1) := by unfold zzOp; rw [zm_195]; decide +kernel
theorem zo_195_2 : zzOp 195 2 = some (.lconst 0, 1) := by unfold zzOp; rw [zm_195]; decide +kernel
theorem zo_195_3 : zzOp 195 3 = some (.ldc2_w 253, 3) := by unfold zzOp; rw [zm_195]; decide +kernel
theorem zo_195_6 : zzOp 195 6 = some (.invokestatic 88, 3) := by unfold zzOp; rw [zm_195]; decide +kernel
theorem zo_195_9 : zzOp 195 9 = some (.ifCond .eq 13, 3) := by unfold zzOp; rw [zm_195]; decide +kernel
theorem zo_195_12 : zzOp 195 12 = some (.iload_n 2, 1) := by unfold zzOp; rw [zm_195]; decide +kernel
theorem zo_195_13 : zzOp 195 13 = some (.i2l, 1) := by unfold zzOp; rw [zm_195]; decide +kernel
theorem zo_195_14 : zzOp 195 14 = some (.lconst 0, 1) := by unfold zzOp; rw [zm_195]; decide +kernel
theorem zo_195_15 : zzOp 195 15 = some (.lconst 1, 1) := by unfold zzOp; rw [zm_195]; decide +kernel
theorem zo_195_16 : zzOp 195 16 = some (.invokestatic 88, 3) := by unfold zzOp; rw [zm_195]; decide +kernel
theorem zo_195_19 : zzOp 195 19 = some (.ifCond .ne 6, 3) := by unfold zzOp; rw [zm_195]; decide +kernel
theorem zo_195_22 : zzOp 195 22 = some (.bipush (-2), 2) := by unfold zzOp; rw [zm_195]; decide +kernel
theorem zo_195_24 : zzOp 195 24 = some (.ireturn, 1) := by unfold zzOp; rw [zm_195]; decide +kernel
theorem zo_195_25 : zzOp 195 25 = some (.aload_n 0, 1) := by unfold zzOp; rw [zm_195]; decide +kernel
theorem zo_195_26 : zzOp 195 26 = some (.iload_n 1, 1) := by unfold zzOp; rw [zm_195]; decide +kernel
theorem zo_195_27 : zzOp 195 27 = some (.iconst (-1), 1) := by unfold zzOp; rw [zm_195]; decide +kernel
theorem zo_195_28 : zzOp 195 28 = some (.invokevirtual 301, 3) := by unfold zzOp; rw [zm_195]; decide +kernel
theorem zo_195_31 : zzOp 195 31 = some (.aload_n 0, 1) := by unfold zzOp; rw [zm_195]; decide +kernel
theorem zo_195_32 : zzOp 195 32 = some (.iconst (-1), 1) := by unfold zzOp; rw [zm_195]; decide +kernel
theorem zo_195_33 : zzOp 195 33 = some (.putfield 304, 3) := by unfold zzOp; rw [zm_195]; decide +kernel
theorem zo_195_36 : zzOp 195 36 = some (.aload_n 0, 1) := by unfold zzOp; rw [zm_195]; decide +kernel
theorem zo_195_37 : zzOp 195 37 = some (.aload_n 0, 1) := by unfold zzOp; rw [zm_195]; decide +kernel
theorem zo_195_38 : zzOp 195 38 = some (.getfield 293, 3) := by unfold zzOp; rw [zm_195]; decide +kernel
theorem zo_195_41 : zzOp 195 41 = some (.putfield 307, 3) := by unfold zzOp; rw [zm_195]; decide +kernel
theorem zo_195_44 : zzOp 195 44 = some (.iconst 0, 1) := by unfold zzOp; rw [zm_195]; decide +kernel
theorem zo_195_45 : zzOp 195 45 = some (.istore_n 3, 1) := by unfold zzOp; rw [zm_195]; decide +kernel
theorem zo_195_46 : zzOp 195 46 = some (.iload_n 3, 1) := by unfold zzOp; rw [zm_195]; decide +kernel
theorem zo_195_47 : zzOp 195 47 = some (.iload_n 1, 1) := by unfold zzOp; rw [zm_195]; decide +kernel
theorem zo_195_48 : zzOp 195 48 = some (.if_icmp .ge 39, 3) := by unfold zzOp; rw [zm_195]; decide +kernel
theorem zo_195_51 : zzOp 195 51 = some (.aload_n 0, 1) := by unfold zzOp; rw [zm_195]; decide +kernel
theorem zo_195_52 : zzOp 195 52 = some (.iload_n 1, 1) := by unfold zzOp; rw [zm_195]; decide +kernel
theorem zo_195_53 : zzOp 195 53 = some (.iload_n 3, 1) := by unfold zzOp; rw [zm_195]; decide +kernel
theorem zo_195_54 : zzOp 195 54 = some (.invokevirtual 301, 3) := by unfold zzOp; rw [zm_195]; decide +kernel
theorem zo_195_57 : zzOp 195 57 = some (.aload_n 0, 1) := by unfold zzOp; rw [zm_195]; decide +kernel
theorem zo_195_58 : zzOp 195 58 = some (.getfield 293, 3) := by unfold zzOp; rw [zm_195]; decide +kernel
theorem zo_195_61 : zzOp 195 61 = some (.aload_n 0, 1) := by unfold zzOp; rw [zm_195]; decide +kernel
theorem zo_195_62 : zzOp 195 62 = some (.getfield 307, 3) := by unfold zzOp; rw [zm_195]; decide +kernel
theorem zo_195_65 : zzOp 195 65 = some (.if_icmp .ge 16, 3) := by unfold zzOp; rw [zm_195]; decide +kernel
theorem zo_195_68 : zzOp 195 68 = some (.aload_n 0, 1) := by unfold zzOp; rw [zm_195]; decide +kernel
theorem zo_195_69 : zzOp 195 69 = some (.iload_n 3, 1) := by unfold zzOp; rw [zm_195]; decide +kernel
theorem zo_195_70 : zzOp 195 70 = some (.putfield 304, 3) := by unfold zzOp; rw [zm_195]; decide +kernel
theorem zo_195_73 : zzOp 195 73 = some (.aload_n 0, 1) := by unfold zzOp; rw [zm_195]; decide +kernel
theorem zo_195_74 : zzOp 195 74 = some (.aload_n 0, 1) := by unfold zzOp; rw [zm_195]; decide +kernel
theorem zo_195_75 : zzOp 195 75 = some (.getfield 293, 3) := by unfold zzOp; rw [zm_195]; decide +kernel
theorem zo_195_78 : zzOp 195 78 = some (.putfield 307, 3) := by unfold zzOp; rw [zm_195]; decide +kernel
theorem zo_195_81 : zzOp 195 81 = some (.iinc 3 1, 3) := by unfold zzOp; rw [zm_195]; decide +kernel
theorem zo_195_84 : zzOp 195 84 = some (.goto (-38), 3) := by unfold zzOp; rw [zm_195]; decide +kernel
theorem zo_195_87 : zzOp 195 87 = some (.iload_n 2, 1) := by unfold zzOp; rw [zm_195]; decide +kernel
theorem zo_195_88 : zzOp 195 88 = some (.ifCond .ne 10, 3) := by unfold zzOp; rw [zm_195]; decide +kernel
theorem zo_195_91 : zzOp 195 91 = some (.aload_n 0, 1) := by unfold zzOp; rw [zm_195]; decide +kernel
theorem zo_195_92 : zzOp 195 92 = some (.getfield 304, 3) := by unfold zzOp; rw [zm_195]; decide +kernel
theorem zo_195_95 : zzOp 195 95 = some (.goto 7, 3) := by unfold zzOp; rw [zm_195]; decide +kernel
theorem zo_195_98 : zzOp 195 98 = some (.aload_n 0, 1) := by unfold zzOp; rw [zm_195]; decide +kernel
theorem zo_195_99 : zzOp 195 99 = some (.getfield 307, 3) := by unfold zzOp; rw [zm_195]; decide +kernel
theorem zo_195_102 : zzOp 195 102 = some (.ireturn, 1) := by unfold zzOp; rw [zm_195]; decide +kernel
theorem zf_195_293 : zzGet zzFL (zzM 195).2.2.2.2.1 293 = some (7, 33) := by rw [zm_195]; decide +kernel
theorem zf_195_304 : zzGet zzFL (zzM 195).2.2.2.2.1 304 = some (7, 35) := by rw [zm_195]; decide +kernel
theorem zf_195_307 : zzGet zzFL (zzM 195).2.2.2.2.1 307 = some (7, 36) := by rw [zm_195]; decide +kernel
theorem zl_195_88 : zzGet zzML (zzM 195).2.2.2.2.1 88 = some (0, 136) := by rw [zm_195]; decide +kernel
theorem zl_195_301 : zzGet zzML (zzM 195).2.2.2.2.1 301 = some (2, 181) := by rw [zm_195]; decide +kernel
theorem zc_195_253 : zzGet zzKL (zzM 195).2.2.2.2.1 253 = some (60) := by rw [zm_195]; decide +kernel
theorem zm_196 : zzM 196 = (yX7_unlike, cX7_unlike, 4, (some .int), 7, 2, 1, zzc_196) := rfl
theorem zr_196 : (zzM 196).2.2.2.1 = (some .int) := by rw [zm_196]
theorem zo_196_0 : zzOp 196 0 = some (.iconst 0, 1) := by unfold zzOp; rw [zm_196]; decide +kernel
theorem zo_196_1 : zzOp 196 1 = some (.istore_n 2, 1) := by unfold zzOp; rw [zm_196]; decide +kernel
theorem zo_196_2 : zzOp 196 2 = some (.iconst 0, 1) := by unfold zzOp; rw [zm_196]; decide +kernel
theorem zo_196_3 : zzOp 196 3 = some (.istore_n 3, 1) := by unfold zzOp; rw [zm_196]; decide +kernel
theorem zo_196_4 : zzOp 196 4 = some (.iload_n 3, 1) := by unfold zzOp; rw [zm_196]; decide +kernel
theorem zo_196_5 : zzOp 196 5 = some (.aload_n 0, 1) := by unfold zzOp; rw [zm_196]; decide +kernel
theorem zo_196_6 : zzOp 196 6 = some (.getfield 85, 3) := by unfold zzOp; rw [zm_196]; decide +kernel
theorem zo_196_9 : zzOp 196 9 = some (.if_icmp .ge 38, 3) := by unfold zzOp; rw [zm_196]; decide +kernel
theorem zo_196_12 : zzOp 196 12 = some (.iload_n 2, 1) := by unfold zzOp; rw [zm_196]; decide +kernel
theorem zo_196_13 : zzOp 196 13 = some (.aload_n 0, 1) := by unfold zzOp; rw [zm_196]; decide +kernel
theorem zo_196_14 : zzOp 196 14 = some (.iload_n 3, 1) := by unfold zzOp; rw [zm_196]; decide +kernel
theorem zo_196_15 : zzOp 196 15 = some (.invokevirtual 133, 3) := by unfold zzOp; rw [zm_196]; decide +kernel
theorem zo_196_18 : zzOp 196 18 = some (.aload_n 0, 1) := by unfold zzOp; rw [zm_196]; decide +kernel
theorem zo_196_19 : zzOp 196 19 = some (.getfield 75, 3) := by unfold zzOp; rw [zm_196]; decide +kernel
theorem zo_196_22 : zzOp 196 22 = some (.bipush 40, 2) := by unfold zzOp; rw [zm_196]; decide +kernel
theorem zo_196_24 : zzOp 196 24 = some (.iload_n 1, 1) := by unfold zzOp; rw [zm_196]; decide +kernel
theorem zo_196_25 : zzOp 196 25 = some (.imul, 1) := by unfold zzOp; rw [zm_196]; decide +kernel
theorem zo_196_26 : zzOp 196 26 = some (.iload_n 3, 1) := by unfold zzOp; rw [zm_196]; decide +kernel
theorem zo_196_27 : zzOp 196 27 = some (.iadd, 1) := by unfold zzOp; rw [zm_196]; decide +kernel
theorem zo_196_28 : zzOp 196 28 = some (.iaload, 1) := by unfold zzOp; rw [zm_196]; decide +kernel
theorem zo_196_29 : zzOp 196 29 = some (.if_icmp .ne 7, 3) := by unfold zzOp; rw [zm_196]; decide +kernel
theorem zo_196_32 : zzOp 196 32 = some (.iconst 0, 1) := by unfold zzOp; rw [zm_196]; decide +kernel
theorem zo_196_33 : zzOp 196 33 = some (.goto 4, 3) := by unfold zzOp; rw [zm_196]; decide +kernel
theorem zo_196_36 : zzOp 196 36 = some (.iconst 1, 1) := by unfold zzOp; rw [zm_196]; decide +kernel
theorem zo_196_37 : zzOp 196 37 = some (.iload_n 3, 1) := by unfold zzOp; rw [zm_196]; decide +kernel
theorem zo_196_38 : zzOp 196 38 = some (.ishl, 1) := by unfold zzOp; rw [zm_196]; decide +kernel
theorem zo_196_39 : zzOp 196 39 = some (.ior, 1) := by unfold zzOp; rw [zm_196]; decide +kernel
theorem zo_196_40 : zzOp 196 40 = some (.istore_n 2, 1) := by unfold zzOp; rw [zm_196]; decide +kernel
theorem zo_196_41 : zzOp 196 41 = some (.iinc 3 1, 3) := by unfold zzOp; rw [zm_196]; decide +kernel
theorem zo_196_44 : zzOp 196 44 = some (.goto (-40), 3) := by unfold zzOp; rw [zm_196]; decide +kernel
theorem zo_196_47 : zzOp 196 47 = some (.iload_n 2, 1) := by unfold zzOp; rw [zm_196]; decide +kernel
theorem zo_196_48 : zzOp 196 48 = some (.ireturn, 1) := by unfold zzOp; rw [zm_196]; decide +kernel
theorem zf_196_75 : zzGet zzFL (zzM 196).2.2.2.2.1 75 = some (7, 51) := by rw [zm_196]; decide +kernel
theorem zf_196_85 : zzGet zzFL (zzM 196).2.2.2.2.1 85 = some (7, 14) := by rw [zm_196]; decide +kernel
theorem zl_196_133 : zzGet zzML (zzM 196).2.2.2.2.1 133 = some (2, 175) := by rw [zm_196]; decide +kernel
