theorem dX6_init_0 : decode cX6_init 0 = .ok (.aload_n 0, 1) := by decide +kernel
theorem dX6_init_1 : decode cX6_init 1 = .ok (.invokespecial 3, 3) := by decide +kernel
theorem dX6_init_4 : decode cX6_init 4 = .ok (.aload_n 0, 1) := by decide +kernel
theorem dX6_init_5 : decode cX6_init 5 = .ok (.bipush 6, 2) := by decide +kernel
theorem dX6_init_7 : decode cX6_init 7 = .ok (.newarray .int, 2) := by decide +kernel
theorem dX6_init_9 : decode cX6_init 9 = .ok (.putfield 9, 3) := by decide +kernel
theorem dX6_init_12 : decode cX6_init 12 = .ok (.aload_n 0, 1) := by decide +kernel
theorem dX6_init_13 : decode cX6_init 13 = .ok (.bipush 6, 2) := by decide +kernel
theorem dX6_init_15 : decode cX6_init 15 = .ok (.newarray .int, 2) := by decide +kernel
theorem dX6_init_17 : decode cX6_init 17 = .ok (.putfield 13, 3) := by decide +kernel
theorem dX6_init_20 : decode cX6_init 20 = .ok (.aload_n 0, 1) := by decide +kernel
theorem dX6_init_21 : decode cX6_init 21 = .ok (.bipush 6, 2) := by decide +kernel
theorem dX6_init_23 : decode cX6_init 23 = .ok (.newarray .int, 2) := by decide +kernel
theorem dX6_init_25 : decode cX6_init 25 = .ok (.putfield 16, 3) := by decide +kernel
theorem dX6_init_28 : decode cX6_init 28 = .ok (.aload_n 0, 1) := by decide +kernel
theorem dX6_init_29 : decode cX6_init 29 = .ok (.bipush 6, 2) := by decide +kernel
theorem dX6_init_31 : decode cX6_init 31 = .ok (.newarray .int, 2) := by decide +kernel
theorem dX6_init_33 : decode cX6_init 33 = .ok (.putfield 19, 3) := by decide +kernel
theorem dX6_init_36 : decode cX6_init 36 = .ok (.aload_n 0, 1) := by decide +kernel
theorem dX6_init_37 : decode cX6_init 37 = .ok (.bipush 48, 2) := by decide +kernel
theorem dX6_init_39 : decode cX6_init 39 = .ok (.newarray .int, 2) := by decide +kernel
theorem dX6_init_41 : decode cX6_init 41 = .ok (.putfield 22, 3) := by decide +kernel
theorem dX6_init_44 : decode cX6_init 44 = .ok (.aload_n 0, 1) := by decide +kernel
theorem dX6_init_45 : decode cX6_init 45 = .ok (.bipush 48, 2) := by decide +kernel
theorem dX6_init_47 : decode cX6_init 47 = .ok (.newarray .boolean, 2) := by decide +kernel
theorem dX6_init_49 : decode cX6_init 49 = .ok (.putfield 25, 3) := by decide +kernel
theorem dX6_init_52 : decode cX6_init 52 = .ok (.aload_n 0, 1) := by decide +kernel
theorem dX6_init_53 : decode cX6_init 53 = .ok (.bipush 8, 2) := by decide +kernel
theorem dX6_init_55 : decode cX6_init 55 = .ok (.newarray .int, 2) := by decide +kernel
theorem dX6_init_57 : decode cX6_init 57 = .ok (.putfield 29, 3) := by decide +kernel
theorem dX6_init_60 : decode cX6_init 60 = .ok (.aload_n 0, 1) := by decide +kernel
theorem dX6_init_61 : decode cX6_init 61 = .ok (.bipush 8, 2) := by decide +kernel
theorem dX6_init_63 : decode cX6_init 63 = .ok (.newarray .int, 2) := by decide +kernel
theorem dX6_init_65 : decode cX6_init 65 = .ok (.putfield 32, 3) := by decide +kernel
theorem dX6_init_68 : decode cX6_init 68 = .ok (.aload_n 0, 1) := by decide +kernel
theorem dX6_init_69 : decode cX6_init 69 = .ok (.bipush 8, 2) := by decide +kernel
theorem dX6_init_71 : decode cX6_init 71 = .ok (.newarray .int, 2) := by decide +kernel
theorem dX6_init_73 : decode cX6_init 73 = .ok (.putfield 35, 3) := by decide +kernel
theorem dX6_init_76 : decode cX6_init 76 = .ok (.aload_n 0, 1) := by decide +kernel
theorem dX6_init_77 : decode cX6_init 77 = .ok (.sipush 12288, 3) := by decide +kernel
theorem dX6_init_80 : decode cX6_init 80 = .ok (.newarray .int, 2) := by decide +kernel
theorem dX6_init_82 : decode cX6_init 82 = .ok (.putfield 38, 3) := by decide +kernel
theorem dX6_init_85 : decode cX6_init 85 = .ok (.aload_n 0, 1) := by decide +kernel
theorem dX6_init_86 : decode cX6_init 86 = .ok (.bipush 8, 2) := by decide +kernel
theorem dX6_init_88 : decode cX6_init 88 = .ok (.newarray .boolean, 2) := by decide +kernel
theorem dX6_init_90 : decode cX6_init 90 = .ok (.putfield 41, 3) := by decide +kernel
theorem dX6_init_93 : decode cX6_init 93 = .ok (.aload_n 0, 1) := by decide +kernel
theorem dX6_init_94 : decode cX6_init 94 = .ok (.sipush 9604, 3) := by decide +kernel
theorem dX6_init_97 : decode cX6_init 97 = .ok (.newarray .boolean, 2) := by decide +kernel
theorem dX6_init_99 : decode cX6_init 99 = .ok (.putfield 44, 3) := by decide +kernel
theorem dX6_init_102 : decode cX6_init 102 = .ok (.aload_n 0, 1) := by decide +kernel
theorem dX6_init_103 : decode cX6_init 103 = .ok (.bipush 98, 2) := by decide +kernel
theorem dX6_init_105 : decode cX6_init 105 = .ok (.newarray .int, 2) := by decide +kernel
theorem dX6_init_107 : decode cX6_init 107 = .ok (.putfield 47, 3) := by decide +kernel
theorem dX6_init_110 : decode cX6_init 110 = .ok (.aload_n 0, 1) := by decide +kernel
theorem dX6_init_111 : decode cX6_init 111 = .ok (.bipush 98, 2) := by decide +kernel
theorem dX6_init_113 : decode cX6_init 113 = .ok (.newarray .int, 2) := by decide +kernel
theorem dX6_init_115 : decode cX6_init 115 = .ok (.putfield 50, 3) := by decide +kernel
theorem dX6_init_118 : decode cX6_init 118 = .ok (.aload_n 0, 1) := by decide +kernel
theorem dX6_init_119 : decode cX6_init 119 = .ok (.bipush 60, 2) := by decide +kernel
theorem dX6_init_121 : decode cX6_init 121 = .ok (.newarray .int, 2) := by decide +kernel
theorem dX6_init_123 : decode cX6_init 123 = .ok (.putfield 53, 3) := by decide +kernel
theorem dX6_init_126 : decode cX6_init 126 = .ok (.aload_n 0, 1) := by decide +kernel
theorem dX6_init_127 : decode cX6_init 127 = .ok (.bipush 60, 2) := by decide +kernel
theorem dX6_init_129 : decode cX6_init 129 = .ok (.newarray .int, 2) := by decide +kernel
theorem dX6_init_131 : decode cX6_init 131 = .ok (.putfield 56, 3) := by decide +kernel
theorem dX6_init_134 : decode cX6_init 134 = .ok (.aload_n 0, 1) := by decide +kernel
theorem dX6_init_135 : decode cX6_init 135 = .ok (.bipush 60, 2) := by decide +kernel
theorem dX6_init_137 : decode cX6_init 137 = .ok (.newarray .int, 2) := by decide +kernel
theorem dX6_init_139 : decode cX6_init 139 = .ok (.putfield 59, 3) := by decide +kernel
theorem dX6_init_142 : decode cX6_init 142 = .ok (.aload_n 0, 1) := by decide +kernel
theorem dX6_init_143 : decode cX6_init 143 = .ok (.bipush 60, 2) := by decide +kernel
theorem dX6_init_145 : decode cX6_init 145 = .ok (.newarray .int, 2) := by decide +kernel
theorem dX6_init_147 : decode cX6_init 147 = .ok (.putfield 62, 3) := by decide +kernel
theorem dX6_init_150 : decode cX6_init 150 = .ok (.aload_n 0, 1) := by decide +kernel
theorem dX6_init_151 : decode cX6_init 151 = .ok (.bipush 60, 2) := by decide +kernel
theorem dX6_init_153 : decode cX6_init 153 = .ok (.newarray .int, 2) := by decide +kernel
theorem dX6_init_155 : decode cX6_init 155 = .ok (.putfield 65, 3) := by decide +kernel
theorem dX6_init_158 : decode cX6_init 158 = .ok (.aload_n 0, 1) := by decide +kernel
theorem dX6_init_159 : decode cX6_init 159 = .ok (.bipush 60, 2) := by decide +kernel
theorem dX6_init_161 : decode cX6_init 161 = .ok (.newarray .int, 2) := by decide +kernel
theorem dX6_init_163 : decode cX6_init 163 = .ok (.putfield 68, 3) := by decide +kernel
theorem dX6_init_166 : decode cX6_init 166 = .ok (.aload_n 0, 1) := by decide +kernel
theorem dX6_init_167 : decode cX6_init 167 = .ok (.bipush 60, 2) := by decide +kernel
theorem dX6_init_169 : decode cX6_init 169 = .ok (.newarray .int, 2) := by decide +kernel
theorem dX6_init_171 : decode cX6_init 171 = .ok (.putfield 71, 3) := by decide +kernel
theorem dX6_init_174 : decode cX6_init 174 = .ok (.aload_n 0, 1) := by decide +kernel
theorem dX6_init_175 : decode cX6_init 175 = .ok (.bipush 60, 2) := by decide +kernel
theorem dX6_init_177 : decode cX6_init 177 = .ok (.newarray .int, 2) := by decide +kernel
theorem dX6_init_179 : decode cX6_init 179 = .ok (.putfield 74, 3) := by decide +kernel
theorem dX6_init_182 : decode cX6_init 182 = .ok (.aload_n 0, 1) := by decide +kernel
theorem dX6_init_183 : decode cX6_init 183 = .ok (.bipush 60, 2) := by decide +kernel
theorem dX6_init_185 : decode cX6_init 185 = .ok (.newarray .int, 2) := by decide +kernel
theorem dX6_init_187 : decode cX6_init 187 = .ok (.putfield 77, 3) := by decide +kernel
theorem dX6_init_190 : decode cX6_init 190 = .ok (.aload_n 0, 1) := by decide +kernel
theorem dX6_init_191 : decode cX6_init 191 = .ok (.bipush 60, 2) := by decide +kernel
theorem dX6_init_193 : decode cX6_init 193 = .ok (.newarray .int, 2) := by decide +kernel
theorem dX6_init_195 : decode cX6_init 195 = .ok (.putfield 80, 3) := by decide +kernel
theorem dX6_init_198 : decode cX6_init 198 = .ok (.aload_n 0, 1) := by decide +kernel
theorem dX6_init_199 : decode cX6_init 199 = .ok (.bipush 60, 2) := by decide +kernel
theorem dX6_init_201 : decode cX6_init 201 = .ok (.newarray .int, 2) := by decide +kernel
theorem dX6_init_203 : decode cX6_init 203 = .ok (.putfield 83, 3) := by decide +kernel
theorem dX6_init_206 : decode cX6_init 206 = .ok (.aload_n 0, 1) := by decide +kernel
theorem dX6_init_207 : decode cX6_init 207 = .ok (.bipush 60, 2) := by decide +kernel
theorem dX6_init_209 : decode cX6_init 209 = .ok (.newarray .int, 2) := by decide +kernel
theorem dX6_init_211 : decode cX6_init 211 = .ok (.putfield 86, 3) := by decide +kernel
theorem dX6_init_214 : decode cX6_init 214 = .ok (.return_, 1) := by decide +kernel
theorem dX6_thrown_0 : decode cX6_thrown 0 = .ok (.aload_n 0, 1) := by decide +kernel
theorem dX6_thrown_1 : decode cX6_thrown 1 = .ok (.getfield 89, 3) := by decide +kernel
theorem dX6_thrown_4 : decode cX6_thrown 4 = .ok (.ireturn, 1) := by decide +kernel
theorem dX6_throwsIf_0 : decode cX6_throwsIf 0 = .ok (.iload_n 1, 1) := by decide +kernel
theorem dX6_throwsIf_1 : decode cX6_throwsIf 1 = .ok (.ifCond .eq 8, 3) := by decide +kernel
theorem dX6_throwsIf_4 : decode cX6_throwsIf 4 = .ok (.aload_n 0, 1) := by decide +kernel
theorem dX6_throwsIf_5 : decode cX6_throwsIf 5 = .ok (.iload_n 2, 1) := by decide +kernel
theorem dX6_throwsIf_6 : decode cX6_throwsIf 6 = .ok (.putfield 89, 3) := by decide +kernel
theorem dX6_throwsIf_9 : decode cX6_throwsIf 9 = .ok (.iload_n 1, 1) := by decide +kernel
theorem dX6_throwsIf_10 : decode cX6_throwsIf 10 = .ok (.ireturn, 1) := by decide +kernel
theorem dX6_in_0 : decode cX6_in 0 = .ok (.iload_n 0, 1) := by decide +kernel
theorem dX6_in_1 : decode cX6_in 1 = .ok (.iload_n 1, 1) := by decide +kernel
theorem dX6_in_2 : decode cX6_in 2 = .ok (.if_icmp .lt 12, 3) := by decide +kernel
theorem dX6_in_5 : decode cX6_in 5 = .ok (.iload_n 0, 1) := by decide +kernel
theorem dX6_in_6 : decode cX6_in 6 = .ok (.iload_n 2, 1) := by decide +kernel
theorem dX6_in_7 : decode cX6_in 7 = .ok (.if_icmp .gt 7, 3) := by decide +kernel
theorem dX6_in_10 : decode cX6_in 10 = .ok (.iconst 1, 1) := by decide +kernel
theorem dX6_in_11 : decode cX6_in 11 = .ok (.goto 4, 3) := by decide +kernel
theorem dX6_in_14 : decode cX6_in 14 = .ok (.iconst 0, 1) := by decide +kernel
theorem dX6_in_15 : decode cX6_in 15 = .ok (.ireturn, 1) := by decide +kernel
theorem dX6_noRelay_0 : decode cX6_noRelay 0 = .ok (.iload_n 1, 1) := by decide +kernel
theorem dX6_noRelay_1 : decode cX6_noRelay 1 = .ok (.iconst 0, 1) := by decide +kernel
theorem dX6_noRelay_2 : decode cX6_noRelay 2 = .ok (.aload_n 0, 1) := by decide +kernel
theorem dX6_noRelay_3 : decode cX6_noRelay 3 = .ok (.getfield 93, 3) := by decide +kernel
theorem dX6_noRelay_6 : decode cX6_noRelay 6 = .ok (.iconst 1, 1) := by decide +kernel
theorem dX6_noRelay_7 : decode cX6_noRelay 7 = .ok (.isub, 1) := by decide +kernel
theorem dX6_noRelay_8 : decode cX6_noRelay 8 = .ok (.invokestatic 96, 3) := by decide +kernel
theorem dX6_noRelay_11 : decode cX6_noRelay 11 = .ok (.ifCond .ne 7, 3) := by decide +kernel
theorem dX6_noRelay_14 : decode cX6_noRelay 14 = .ok (.iconst 1, 1) := by decide +kernel
theorem dX6_noRelay_15 : decode cX6_noRelay 15 = .ok (.goto 4, 3) := by decide +kernel
theorem dX6_noRelay_18 : decode cX6_noRelay 18 = .ok (.iconst 0, 1) := by decide +kernel
theorem dX6_noRelay_19 : decode cX6_noRelay 19 = .ok (.ireturn, 1) := by decide +kernel
theorem dX6_noPost_0 : decode cX6_noPost 0 = .ok (.iload_n 1, 1) := by decide +kernel
theorem dX6_noPost_1 : decode cX6_noPost 1 = .ok (.iconst 0, 1) := by decide +kernel
theorem dX6_noPost_2 : decode cX6_noPost 2 = .ok (.aload_n 0, 1) := by decide +kernel
theorem dX6_noPost_3 : decode cX6_noPost 3 = .ok (.getfield 100, 3) := by decide +kernel
theorem dX6_noPost_6 : decode cX6_noPost 6 = .ok (.iconst 1, 1) := by decide +kernel
theorem dX6_noPost_7 : decode cX6_noPost 7 = .ok (.isub, 1) := by decide +kernel
theorem dX6_noPost_8 : decode cX6_noPost 8 = .ok (.invokestatic 96, 3) := by decide +kernel
theorem dX6_noPost_11 : decode cX6_noPost 11 = .ok (.ifCond .ne 7, 3) := by decide +kernel
theorem dX6_noPost_14 : decode cX6_noPost 14 = .ok (.iconst 1, 1) := by decide +kernel
theorem dX6_noPost_15 : decode cX6_noPost 15 = .ok (.goto 4, 3) := by decide +kernel
theorem dX6_noPost_18 : decode cX6_noPost 18 = .ok (.iconst 0, 1) := by decide +kernel
theorem dX6_noPost_19 : decode cX6_noPost 19 = .ok (.ireturn, 1) := by decide +kernel
theorem dX6_noTick_0 : decode cX6_noTick 0 = .ok (.iload_n 0, 1) := by decide +kernel
theorem dX6_noTick_1 : decode cX6_noTick 1 = .ok (.iconst 0, 1) := by decide +kernel
theorem dX6_noTick_2 : decode cX6_noTick 2 = .ok (.ldc 103, 2) := by decide +kernel
theorem dX6_noTick_4 : decode cX6_noTick 4 = .ok (.invokestatic 96, 3) := by decide +kernel
theorem dX6_noTick_7 : decode cX6_noTick 7 = .ok (.ifCond .ne 7, 3) := by decide +kernel
theorem dX6_noTick_10 : decode cX6_noTick 10 = .ok (.iconst 1, 1) := by decide +kernel
theorem dX6_noTick_11 : decode cX6_noTick 11 = .ok (.goto 4, 3) := by decide +kernel
theorem dX6_noTick_14 : decode cX6_noTick 14 = .ok (.iconst 0, 1) := by decide +kernel
theorem dX6_noTick_15 : decode cX6_noTick 15 = .ok (.ireturn, 1) := by decide +kernel
theorem dX6_plane_0 : decode cX6_plane 0 = .ok (.aload_n 0, 1) := by decide +kernel
theorem dX6_plane_1 : decode cX6_plane 1 = .ok (.iconst 0, 1) := by decide +kernel
theorem dX6_plane_2 : decode cX6_plane 2 = .ok (.putfield 89, 3) := by decide +kernel
theorem dX6_plane_5 : decode cX6_plane 5 = .ok (.aload_n 0, 1) := by decide +kernel
theorem dX6_plane_6 : decode cX6_plane 6 = .ok (.aload_n 0, 1) := by decide +kernel
theorem dX6_plane_7 : decode cX6_plane 7 = .ok (.getfield 104, 3) := by decide +kernel
theorem dX6_plane_10 : decode cX6_plane 10 = .ok (.ifCond .le 7, 3) := by decide +kernel
theorem dX6_plane_13 : decode cX6_plane 13 = .ok (.iconst 1, 1) := by decide +kernel
theorem dX6_plane_14 : decode cX6_plane 14 = .ok (.goto 4, 3) := by decide +kernel
theorem dX6_plane_17 : decode cX6_plane 17 = .ok (.iconst 0, 1) := by decide +kernel
theorem dX6_plane_18 : decode cX6_plane 18 = .ok (.iconst 1, 1) := by decide +kernel
theorem dX6_plane_19 : decode cX6_plane 19 = .ok (.invokevirtual 107, 3) := by decide +kernel
theorem dX6_plane_22 : decode cX6_plane 22 = .ok (.ifCond .ne 68, 3) := by decide +kernel
theorem dX6_plane_25 : decode cX6_plane 25 = .ok (.aload_n 0, 1) := by decide +kernel
theorem dX6_plane_26 : decode cX6_plane 26 = .ok (.iload_n 1, 1) := by decide +kernel
theorem dX6_plane_27 : decode cX6_plane 27 = .ok (.iconst 1, 1) := by decide +kernel
theorem dX6_plane_28 : decode cX6_plane 28 = .ok (.bipush 8, 2) := by decide +kernel
theorem dX6_plane_30 : decode cX6_plane 30 = .ok (.invokestatic 96, 3) := by decide +kernel
theorem dX6_plane_33 : decode cX6_plane 33 = .ok (.ifCond .eq 23, 3) := by decide +kernel
theorem dX6_plane_36 : decode cX6_plane 36 = .ok (.iload_n 2, 1) := by decide +kernel
theorem dX6_plane_37 : decode cX6_plane 37 = .ok (.iconst 0, 1) := by decide +kernel
theorem dX6_plane_38 : decode cX6_plane 38 = .ok (.bipush 31, 2) := by decide +kernel
theorem dX6_plane_40 : decode cX6_plane 40 = .ok (.invokestatic 96, 3) := by decide +kernel
theorem dX6_plane_43 : decode cX6_plane 43 = .ok (.ifCond .eq 13, 3) := by decide +kernel
theorem dX6_plane_46 : decode cX6_plane 46 = .ok (.iload_n 3, 1) := by decide +kernel
theorem dX6_plane_47 : decode cX6_plane 47 = .ok (.bipush (-3), 2) := by decide +kernel
theorem dX6_plane_49 : decode cX6_plane 49 = .ok (.iconst 3, 1) := by decide +kernel
theorem dX6_plane_50 : decode cX6_plane 50 = .ok (.invokestatic 96, 3) := by decide +kernel
theorem dX6_plane_53 : decode cX6_plane 53 = .ok (.ifCond .ne 7, 3) := by decide +kernel
theorem dX6_plane_56 : decode cX6_plane 56 = .ok (.iconst 1, 1) := by decide +kernel
theorem dX6_plane_57 : decode cX6_plane 57 = .ok (.goto 4, 3) := by decide +kernel
theorem dX6_plane_60 : decode cX6_plane 60 = .ok (.iconst 0, 1) := by decide +kernel
theorem dX6_plane_61 : decode cX6_plane 61 = .ok (.iconst 2, 1) := by decide +kernel
theorem dX6_plane_62 : decode cX6_plane 62 = .ok (.invokevirtual 107, 3) := by decide +kernel
theorem dX6_plane_65 : decode cX6_plane 65 = .ok (.ifCond .ne 25, 3) := by decide +kernel
theorem dX6_plane_68 : decode cX6_plane 68 = .ok (.aload_n 0, 1) := by decide +kernel
theorem dX6_plane_69 : decode cX6_plane 69 = .ok (.aload_n 0, 1) := by decide +kernel
theorem dX6_plane_70 : decode cX6_plane 70 = .ok (.getfield 111, 3) := by decide +kernel
theorem dX6_plane_73 : decode cX6_plane 73 = .ok (.bipush 6, 2) := by decide +kernel
theorem dX6_plane_75 : decode cX6_plane 75 = .ok (.if_icmp .ne 7, 3) := by decide +kernel
theorem dX6_plane_78 : decode cX6_plane 78 = .ok (.iconst 1, 1) := by decide +kernel
theorem dX6_plane_79 : decode cX6_plane 79 = .ok (.goto 4, 3) := by decide +kernel
theorem dX6_plane_82 : decode cX6_plane 82 = .ok (.iconst 0, 1) := by decide +kernel
theorem dX6_plane_83 : decode cX6_plane 83 = .ok (.iconst 3, 1) := by decide +kernel
theorem dX6_plane_84 : decode cX6_plane 84 = .ok (.invokevirtual 107, 3) := by decide +kernel
theorem dX6_plane_87 : decode cX6_plane 87 = .ok (.ifCond .eq 5, 3) := by decide +kernel
theorem dX6_plane_90 : decode cX6_plane 90 = .ok (.iconst 0, 1) := by decide +kernel
theorem dX6_plane_91 : decode cX6_plane 91 = .ok (.ireturn, 1) := by decide +kernel
theorem dX6_plane_92 : decode cX6_plane 92 = .ok (.aload_n 0, 1) := by decide +kernel
theorem dX6_plane_93 : decode cX6_plane 93 = .ok (.getfield 9, 3) := by decide +kernel
theorem dX6_plane_96 : decode cX6_plane 96 = .ok (.aload_n 0, 1) := by decide +kernel
theorem dX6_plane_97 : decode cX6_plane 97 = .ok (.getfield 111, 3) := by decide +kernel
theorem dX6_plane_100 : decode cX6_plane 100 = .ok (.iload_n 1, 1) := by decide +kernel
theorem dX6_plane_101 : decode cX6_plane 101 = .ok (.iastore, 1) := by decide +kernel
theorem dX6_plane_102 : decode cX6_plane 102 = .ok (.aload_n 0, 1) := by decide +kernel
theorem dX6_plane_103 : decode cX6_plane 103 = .ok (.getfield 13, 3) := by decide +kernel
theorem dX6_plane_106 : decode cX6_plane 106 = .ok (.aload_n 0, 1) := by decide +kernel
theorem dX6_plane_107 : decode cX6_plane 107 = .ok (.getfield 111, 3) := by decide +kernel
theorem dX6_plane_110 : decode cX6_plane 110 = .ok (.iload_n 2, 1) := by decide +kernel
theorem dX6_plane_111 : decode cX6_plane 111 = .ok (.iastore, 1) := by decide +kernel
theorem dX6_plane_112 : decode cX6_plane 112 = .ok (.aload_n 0, 1) := by decide +kernel
theorem dX6_plane_113 : decode cX6_plane 113 = .ok (.getfield 16, 3) := by decide +kernel
theorem dX6_plane_116 : decode cX6_plane 116 = .ok (.aload_n 0, 1) := by decide +kernel
theorem dX6_plane_117 : decode cX6_plane 117 = .ok (.getfield 111, 3) := by decide +kernel
theorem dX6_plane_120 : decode cX6_plane 120 = .ok (.iload_n 3, 1) := by decide +kernel
theorem dX6_plane_121 : decode cX6_plane 121 = .ok (.iastore, 1) := by decide +kernel
theorem dX6_plane_122 : decode cX6_plane 122 = .ok (.aload_n 0, 1) := by decide +kernel
theorem dX6_plane_123 : decode cX6_plane 123 = .ok (.getfield 19, 3) := by decide +kernel
theorem dX6_plane_126 : decode cX6_plane 126 = .ok (.aload_n 0, 1) := by decide +kernel
theorem dX6_plane_127 : decode cX6_plane 127 = .ok (.getfield 111, 3) := by decide +kernel
theorem dX6_plane_130 : decode cX6_plane 130 = .ok (.aload_n 0, 1) := by decide +kernel
theorem dX6_plane_131 : decode cX6_plane 131 = .ok (.getfield 93, 3) := by decide +kernel
theorem dX6_plane_134 : decode cX6_plane 134 = .ok (.iastore, 1) := by decide +kernel
theorem dX6_plane_135 : decode cX6_plane 135 = .ok (.iconst 0, 1) := by decide +kernel
theorem dX6_plane_136 : decode cX6_plane 136 = .ok (.istore 4, 2) := by decide +kernel
theorem dX6_plane_138 : decode cX6_plane 138 = .ok (.iload 4, 2) := by decide +kernel
theorem dX6_plane_140 : decode cX6_plane 140 = .ok (.iload_n 1, 1) := by decide +kernel
theorem dX6_plane_141 : decode cX6_plane 141 = .ok (.if_icmp .ge 32, 3) := by decide +kernel
theorem dX6_plane_144 : decode cX6_plane 144 = .ok (.aload_n 0, 1) := by decide +kernel
theorem dX6_plane_145 : decode cX6_plane 145 = .ok (.getfield 22, 3) := by decide +kernel
theorem dX6_plane_148 : decode cX6_plane 148 = .ok (.aload_n 0, 1) := by decide +kernel
theorem dX6_plane_149 : decode cX6_plane 149 = .ok (.getfield 93, 3) := by decide +kernel
theorem dX6_plane_152 : decode cX6_plane 152 = .ok (.aload_n 0, 1) := by decide +kernel
theorem dX6_plane_153 : decode cX6_plane 153 = .ok (.getfield 111, 3) := by decide +kernel
theorem dX6_plane_156 : decode cX6_plane 156 = .ok (.iastore, 1) := by decide +kernel
theorem dX6_plane_157 : decode cX6_plane 157 = .ok (.aload_n 0, 1) := by decide +kernel
theorem dX6_plane_158 : decode cX6_plane 158 = .ok (.dup, 1) := by decide +kernel
theorem dX6_plane_159 : decode cX6_plane 159 = .ok (.getfield 93, 3) := by decide +kernel
theorem dX6_plane_162 : decode cX6_plane 162 = .ok (.iconst 1, 1) := by decide +kernel
theorem dX6_plane_163 : decode cX6_plane 163 = .ok (.iadd, 1) := by decide +kernel
theorem dX6_plane_164 : decode cX6_plane 164 = .ok (.putfield 93, 3) := by decide +kernel
theorem dX6_plane_167 : decode cX6_plane 167 = .ok (.iinc 4 1, 3) := by decide +kernel
theorem dX6_plane_170 : decode cX6_plane 170 = .ok (.goto (-32), 3) := by decide +kernel
theorem dX6_plane_173 : decode cX6_plane 173 = .ok (.aload_n 0, 1) := by decide +kernel
theorem dX6_plane_174 : decode cX6_plane 174 = .ok (.dup, 1) := by decide +kernel
theorem dX6_plane_175 : decode cX6_plane 175 = .ok (.getfield 111, 3) := by decide +kernel
theorem dX6_plane_178 : decode cX6_plane 178 = .ok (.iconst 1, 1) := by decide +kernel
theorem dX6_plane_179 : decode cX6_plane 179 = .ok (.iadd, 1) := by decide +kernel
theorem dX6_plane_180 : decode cX6_plane 180 = .ok (.putfield 111, 3) := by decide +kernel
theorem dX6_plane_183 : decode cX6_plane 183 = .ok (.aload_n 0, 1) := by decide +kernel
theorem dX6_plane_184 : decode cX6_plane 184 = .ok (.invokevirtual 114, 3) := by decide +kernel
theorem dX6_plane_187 : decode cX6_plane 187 = .ok (.aload_n 0, 1) := by decide +kernel
theorem dX6_plane_188 : decode cX6_plane 188 = .ok (.getfield 111, 3) := by decide +kernel
theorem dX6_plane_191 : decode cX6_plane 191 = .ok (.iconst 1, 1) := by decide +kernel
theorem dX6_plane_192 : decode cX6_plane 192 = .ok (.isub, 1) := by decide +kernel
theorem dX6_plane_193 : decode cX6_plane 193 = .ok (.ireturn, 1) := by decide +kernel
theorem dX6_post_0 : decode cX6_post 0 = .ok (.aload_n 0, 1) := by decide +kernel
theorem dX6_post_1 : decode cX6_post 1 = .ok (.iconst 0, 1) := by decide +kernel
theorem dX6_post_2 : decode cX6_post 2 = .ok (.putfield 89, 3) := by decide +kernel
theorem dX6_post_5 : decode cX6_post 5 = .ok (.aload_n 0, 1) := by decide +kernel
theorem dX6_post_6 : decode cX6_post 6 = .ok (.aload_n 0, 1) := by decide +kernel
theorem dX6_post_7 : decode cX6_post 7 = .ok (.getfield 104, 3) := by decide +kernel
theorem dX6_post_10 : decode cX6_post 10 = .ok (.ifCond .le 7, 3) := by decide +kernel
theorem dX6_post_13 : decode cX6_post 13 = .ok (.iconst 1, 1) := by decide +kernel
theorem dX6_post_14 : decode cX6_post 14 = .ok (.goto 4, 3) := by decide +kernel
theorem dX6_post_17 : decode cX6_post 17 = .ok (.iconst 0, 1) := by decide +kernel
theorem dX6_post_18 : decode cX6_post 18 = .ok (.iconst 1, 1) := by decide +kernel
theorem dX6_post_19 : decode cX6_post 19 = .ok (.invokevirtual 107, 3) := by decide +kernel
theorem dX6_post_22 : decode cX6_post 22 = .ok (.ifCond .ne 67, 3) := by decide +kernel
theorem dX6_post_25 : decode cX6_post 25 = .ok (.aload_n 0, 1) := by decide +kernel
theorem dX6_post_26 : decode cX6_post 26 = .ok (.iload_n 1, 1) := by decide +kernel
theorem dX6_post_27 : decode cX6_post 27 = .ok (.iconst 0, 1) := by decide +kernel
theorem dX6_post_28 : decode cX6_post 28 = .ok (.bipush 31, 2) := by decide +kernel
theorem dX6_post_30 : decode cX6_post 30 = .ok (.invokestatic 96, 3) := by decide +kernel
theorem dX6_post_33 : decode cX6_post 33 = .ok (.ifCond .eq 22, 3) := by decide +kernel
theorem dX6_post_36 : decode cX6_post 36 = .ok (.iload_n 2, 1) := by decide +kernel
theorem dX6_post_37 : decode cX6_post 37 = .ok (.iconst 0, 1) := by decide +kernel
theorem dX6_post_38 : decode cX6_post 38 = .ok (.iconst 5, 1) := by decide +kernel
theorem dX6_post_39 : decode cX6_post 39 = .ok (.invokestatic 96, 3) := by decide +kernel
theorem dX6_post_42 : decode cX6_post 42 = .ok (.ifCond .eq 13, 3) := by decide +kernel
theorem dX6_post_45 : decode cX6_post 45 = .ok (.iload_n 3, 1) := by decide +kernel
theorem dX6_post_46 : decode cX6_post 46 = .ok (.iconst 0, 1) := by decide +kernel
theorem dX6_post_47 : decode cX6_post 47 = .ok (.bipush 8, 2) := by decide +kernel
theorem dX6_post_49 : decode cX6_post 49 = .ok (.invokestatic 96, 3) := by decide +kernel
theorem dX6_post_52 : decode cX6_post 52 = .ok (.ifCond .ne 7, 3) := by decide +kernel
theorem dX6_post_55 : decode cX6_post 55 = .ok (.iconst 1, 1) := by decide +kernel
theorem dX6_post_56 : decode cX6_post 56 = .ok (.goto 4, 3) := by decide +kernel
theorem dX6_post_59 : decode cX6_post 59 = .ok (.iconst 0, 1) := by decide +kernel
theorem dX6_post_60 : decode cX6_post 60 = .ok (.iconst 2, 1) := by decide +kernel
theorem dX6_post_61 : decode cX6_post 61 = .ok (.invokevirtual 107, 3) := by decide +kernel
theorem dX6_post_64 : decode cX6_post 64 = .ok (.ifCond .ne 25, 3) := by decide +kernel
theorem dX6_post_67 : decode cX6_post 67 = .ok (.aload_n 0, 1) := by decide +kernel
theorem dX6_post_68 : decode cX6_post 68 = .ok (.aload_n 0, 1) := by decide +kernel
theorem dX6_post_69 : decode cX6_post 69 = .ok (.getfield 100, 3) := by decide +kernel
theorem dX6_post_72 : decode cX6_post 72 = .ok (.bipush 8, 2) := by decide +kernel
theorem dX6_post_74 : decode cX6_post 74 = .ok (.if_icmp .ne 7, 3) := by decide +kernel
theorem dX6_post_77 : decode cX6_post 77 = .ok (.iconst 1, 1) := by decide +kernel
theorem dX6_post_78 : decode cX6_post 78 = .ok (.goto 4, 3) := by decide +kernel
theorem dX6_post_81 : decode cX6_post 81 = .ok (.iconst 0, 1) := by decide +kernel
theorem dX6_post_82 : decode cX6_post 82 = .ok (.iconst 3, 1) := by decide +kernel
theorem dX6_post_83 : decode cX6_post 83 = .ok (.invokevirtual 107, 3) := by decide +kernel
theorem dX6_post_86 : decode cX6_post 86 = .ok (.ifCond .eq 5, 3) := by decide +kernel
theorem dX6_post_89 : decode cX6_post 89 = .ok (.iconst 0, 1) := by decide +kernel
theorem dX6_post_90 : decode cX6_post 90 = .ok (.ireturn, 1) := by decide +kernel
theorem dX6_post_91 : decode cX6_post 91 = .ok (.aload_n 0, 1) := by decide +kernel
theorem dX6_post_92 : decode cX6_post 92 = .ok (.getfield 29, 3) := by decide +kernel
theorem dX6_post_95 : decode cX6_post 95 = .ok (.aload_n 0, 1) := by decide +kernel
theorem dX6_post_96 : decode cX6_post 96 = .ok (.getfield 100, 3) := by decide +kernel
theorem dX6_post_99 : decode cX6_post 99 = .ok (.iload_n 1, 1) := by decide +kernel
theorem dX6_post_100 : decode cX6_post 100 = .ok (.iastore, 1) := by decide +kernel
theorem dX6_post_101 : decode cX6_post 101 = .ok (.aload_n 0, 1) := by decide +kernel
theorem dX6_post_102 : decode cX6_post 102 = .ok (.getfield 32, 3) := by decide +kernel
theorem dX6_post_105 : decode cX6_post 105 = .ok (.aload_n 0, 1) := by decide +kernel
theorem dX6_post_106 : decode cX6_post 106 = .ok (.getfield 100, 3) := by decide +kernel
theorem dX6_post_109 : decode cX6_post 109 = .ok (.iload_n 2, 1) := by decide +kernel
theorem dX6_post_110 : decode cX6_post 110 = .ok (.iastore, 1) := by decide +kernel
theorem dX6_post_111 : decode cX6_post 111 = .ok (.aload_n 0, 1) := by decide +kernel
theorem dX6_post_112 : decode cX6_post 112 = .ok (.getfield 35, 3) := by decide +kernel
theorem dX6_post_115 : decode cX6_post 115 = .ok (.aload_n 0, 1) := by decide +kernel
theorem dX6_post_116 : decode cX6_post 116 = .ok (.getfield 100, 3) := by decide +kernel
theorem dX6_post_119 : decode cX6_post 119 = .ok (.iload_n 3, 1) := by decide +kernel
theorem dX6_post_120 : decode cX6_post 120 = .ok (.iastore, 1) := by decide +kernel
theorem dX6_post_121 : decode cX6_post 121 = .ok (.aload_n 0, 1) := by decide +kernel
theorem dX6_post_122 : decode cX6_post 122 = .ok (.dup, 1) := by decide +kernel
theorem dX6_post_123 : decode cX6_post 123 = .ok (.getfield 100, 3) := by decide +kernel
theorem dX6_post_126 : decode cX6_post 126 = .ok (.iconst 1, 1) := by decide +kernel
theorem dX6_post_127 : decode cX6_post 127 = .ok (.iadd, 1) := by decide +kernel
theorem dX6_post_128 : decode cX6_post 128 = .ok (.putfield 100, 3) := by decide +kernel
theorem dX6_post_131 : decode cX6_post 131 = .ok (.aload_n 0, 1) := by decide +kernel
theorem dX6_post_132 : decode cX6_post 132 = .ok (.invokevirtual 114, 3) := by decide +kernel
theorem dX6_post_135 : decode cX6_post 135 = .ok (.aload_n 0, 1) := by decide +kernel
theorem dX6_post_136 : decode cX6_post 136 = .ok (.getfield 100, 3) := by decide +kernel
theorem dX6_post_139 : decode cX6_post 139 = .ok (.iconst 1, 1) := by decide +kernel
theorem dX6_post_140 : decode cX6_post 140 = .ok (.isub, 1) := by decide +kernel
theorem dX6_post_141 : decode cX6_post 141 = .ok (.ireturn, 1) := by decide +kernel
theorem dX6_forgets_0 : decode cX6_forgets 0 = .ok (.iconst 0, 1) := by decide +kernel
theorem dX6_forgets_1 : decode cX6_forgets 1 = .ok (.istore_n 1, 1) := by decide +kernel
theorem dX6_forgets_2 : decode cX6_forgets 2 = .ok (.iload_n 1, 1) := by decide +kernel
theorem dX6_forgets_3 : decode cX6_forgets 3 = .ok (.bipush 8, 2) := by decide +kernel
theorem dX6_forgets_5 : decode cX6_forgets 5 = .ok (.if_icmp .ge 16, 3) := by decide +kernel
theorem dX6_forgets_8 : decode cX6_forgets 8 = .ok (.aload_n 0, 1) := by decide +kernel
theorem dX6_forgets_9 : decode cX6_forgets 9 = .ok (.getfield 41, 3) := by decide +kernel
theorem dX6_forgets_12 : decode cX6_forgets 12 = .ok (.iload_n 1, 1) := by decide +kernel
theorem dX6_forgets_13 : decode cX6_forgets 13 = .ok (.iconst 0, 1) := by decide +kernel
theorem dX6_forgets_14 : decode cX6_forgets 14 = .ok (.bastore, 1) := by decide +kernel
theorem dX6_forgets_15 : decode cX6_forgets 15 = .ok (.iinc 1 1, 3) := by decide +kernel
theorem dX6_forgets_18 : decode cX6_forgets 18 = .ok (.goto (-16), 3) := by decide +kernel
theorem dX6_forgets_21 : decode cX6_forgets 21 = .ok (.return_, 1) := by decide +kernel
theorem dX6_placeOf_0 : decode cX6_placeOf 0 = .ok (.aload_n 0, 1) := by decide +kernel
theorem dX6_placeOf_1 : decode cX6_placeOf 1 = .ok (.getfield 22, 3) := by decide +kernel
theorem dX6_placeOf_4 : decode cX6_placeOf 4 = .ok (.iload_n 1, 1) := by decide +kernel
theorem dX6_placeOf_5 : decode cX6_placeOf 5 = .ok (.iaload, 1) := by decide +kernel
theorem dX6_placeOf_6 : decode cX6_placeOf 6 = .ok (.istore_n 3, 1) := by decide +kernel
theorem dX6_placeOf_7 : decode cX6_placeOf 7 = .ok (.iconst 4, 1) := by decide +kernel
theorem dX6_placeOf_8 : decode cX6_placeOf 8 = .ok (.iload_n 1, 1) := by decide +kernel
theorem dX6_placeOf_9 : decode cX6_placeOf 9 = .ok (.aload_n 0, 1) := by decide +kernel
theorem dX6_placeOf_10 : decode cX6_placeOf 10 = .ok (.getfield 19, 3) := by decide +kernel
theorem dX6_placeOf_13 : decode cX6_placeOf 13 = .ok (.iload_n 3, 1) := by decide +kernel
theorem dX6_placeOf_14 : decode cX6_placeOf 14 = .ok (.iaload, 1) := by decide +kernel
theorem dX6_placeOf_15 : decode cX6_placeOf 15 = .ok (.isub, 1) := by decide +kernel
theorem dX6_placeOf_16 : decode cX6_placeOf 16 = .ok (.imul, 1) := by decide +kernel
theorem dX6_placeOf_17 : decode cX6_placeOf 17 = .ok (.aload_n 0, 1) := by decide +kernel
theorem dX6_placeOf_18 : decode cX6_placeOf 18 = .ok (.getfield 13, 3) := by decide +kernel
theorem dX6_placeOf_21 : decode cX6_placeOf 21 = .ok (.iload_n 3, 1) := by decide +kernel
theorem dX6_placeOf_22 : decode cX6_placeOf 22 = .ok (.iaload, 1) := by decide +kernel
theorem dX6_placeOf_23 : decode cX6_placeOf 23 = .ok (.iadd, 1) := by decide +kernel
theorem dX6_placeOf_24 : decode cX6_placeOf 24 = .ok (.aload_n 0, 1) := by decide +kernel
theorem dX6_placeOf_25 : decode cX6_placeOf 25 = .ok (.getfield 16, 3) := by decide +kernel
theorem dX6_placeOf_28 : decode cX6_placeOf 28 = .ok (.iload_n 3, 1) := by decide +kernel
theorem dX6_placeOf_29 : decode cX6_placeOf 29 = .ok (.iaload, 1) := by decide +kernel
theorem dX6_placeOf_30 : decode cX6_placeOf 30 = .ok (.bipush 32, 2) := by decide +kernel
theorem dX6_placeOf_32 : decode cX6_placeOf 32 = .ok (.iadd, 1) := by decide +kernel
theorem dX6_placeOf_33 : decode cX6_placeOf 33 = .ok (.iload_n 2, 1) := by decide +kernel
theorem dX6_placeOf_34 : decode cX6_placeOf 34 = .ok (.bipush 32, 2) := by decide +kernel
theorem dX6_placeOf_36 : decode cX6_placeOf 36 = .ok (.irem, 1) := by decide +kernel
theorem dX6_placeOf_37 : decode cX6_placeOf 37 = .ok (.imul, 1) := by decide +kernel
theorem dX6_placeOf_38 : decode cX6_placeOf 38 = .ok (.iadd, 1) := by decide +kernel
theorem dX6_placeOf_39 : decode cX6_placeOf 39 = .ok (.bipush 32, 2) := by decide +kernel
theorem dX6_placeOf_41 : decode cX6_placeOf 41 = .ok (.irem, 1) := by decide +kernel
theorem dX6_placeOf_42 : decode cX6_placeOf 42 = .ok (.ireturn, 1) := by decide +kernel
theorem dX6_over_0 : decode cX6_over 0 = .ok (.aload_n 0, 1) := by decide +kernel
theorem dX6_over_1 : decode cX6_over 1 = .ok (.iconst 0, 1) := by decide +kernel
theorem dX6_over_2 : decode cX6_over 2 = .ok (.putfield 89, 3) := by decide +kernel
theorem dX6_over_5 : decode cX6_over 5 = .ok (.aload_n 0, 1) := by decide +kernel
theorem dX6_over_6 : decode cX6_over 6 = .ok (.aload_n 0, 1) := by decide +kernel
theorem dX6_over_7 : decode cX6_over 7 = .ok (.iload_n 1, 1) := by decide +kernel
theorem dX6_over_8 : decode cX6_over 8 = .ok (.invokevirtual 117, 3) := by decide +kernel
theorem dX6_over_11 : decode cX6_over 11 = .ok (.iconst 1, 1) := by decide +kernel
theorem dX6_over_12 : decode cX6_over 12 = .ok (.invokevirtual 107, 3) := by decide +kernel
theorem dX6_over_15 : decode cX6_over 15 = .ok (.ifCond .ne 15, 3) := by decide +kernel
theorem dX6_over_18 : decode cX6_over 18 = .ok (.aload_n 0, 1) := by decide +kernel
theorem dX6_over_19 : decode cX6_over 19 = .ok (.iload_n 2, 1) := by decide +kernel
theorem dX6_over_20 : decode cX6_over 20 = .ok (.invokestatic 121, 3) := by decide +kernel
theorem dX6_over_23 : decode cX6_over 23 = .ok (.iconst 2, 1) := by decide +kernel
theorem dX6_over_24 : decode cX6_over 24 = .ok (.invokevirtual 107, 3) := by decide +kernel
theorem dX6_over_27 : decode cX6_over 27 = .ok (.ifCond .eq 7, 3) := by decide +kernel
theorem dX6_over_30 : decode cX6_over 30 = .ok (.iconst 0, 1) := by decide +kernel
theorem dX6_over_31 : decode cX6_over 31 = .ok (.goto 9, 3) := by decide +kernel
theorem dX6_over_34 : decode cX6_over 34 = .ok (.aload_n 0, 1) := by decide +kernel
theorem dX6_over_35 : decode cX6_over 35 = .ok (.iload_n 1, 1) := by decide +kernel
theorem dX6_over_36 : decode cX6_over 36 = .ok (.iload_n 2, 1) := by decide +kernel
theorem dX6_over_37 : decode cX6_over 37 = .ok (.invokevirtual 124, 3) := by decide +kernel
theorem dX6_over_40 : decode cX6_over 40 = .ok (.ireturn, 1) := by decide +kernel
theorem dX6_apart_0 : decode cX6_apart 0 = .ok (.iload_n 0, 1) := by decide +kernel
theorem dX6_apart_1 : decode cX6_apart 1 = .ok (.iload_n 1, 1) := by decide +kernel
theorem dX6_apart_2 : decode cX6_apart 2 = .ok (.isub, 1) := by decide +kernel
theorem dX6_apart_3 : decode cX6_apart 3 = .ok (.invokestatic 128, 3) := by decide +kernel
theorem dX6_apart_6 : decode cX6_apart 6 = .ok (.istore_n 2, 1) := by decide +kernel
theorem dX6_apart_7 : decode cX6_apart 7 = .ok (.iload_n 2, 1) := by decide +kernel
theorem dX6_apart_8 : decode cX6_apart 8 = .ok (.bipush 32, 2) := by decide +kernel
theorem dX6_apart_10 : decode cX6_apart 10 = .ok (.iload_n 2, 1) := by decide +kernel
theorem dX6_apart_11 : decode cX6_apart 11 = .ok (.isub, 1) := by decide +kernel
theorem dX6_apart_12 : decode cX6_apart 12 = .ok (.invokestatic 134, 3) := by decide +kernel
theorem dX6_apart_15 : decode cX6_apart 15 = .ok (.ireturn, 1) := by decide +kernel
theorem dX6_linkOf_0 : decode cX6_linkOf 0 = .ok (.iload_n 1, 1) := by decide +kernel
theorem dX6_linkOf_1 : decode cX6_linkOf 1 = .ok (.iload_n 2, 1) := by decide +kernel
theorem dX6_linkOf_2 : decode cX6_linkOf 2 = .ok (.if_icmp .eq 21, 3) := by decide +kernel
theorem dX6_linkOf_5 : decode cX6_linkOf 5 = .ok (.aload_n 0, 1) := by decide +kernel
theorem dX6_linkOf_6 : decode cX6_linkOf 6 = .ok (.getfield 25, 3) := by decide +kernel
theorem dX6_linkOf_9 : decode cX6_linkOf 9 = .ok (.iload_n 1, 1) := by decide +kernel
theorem dX6_linkOf_10 : decode cX6_linkOf 10 = .ok (.baload, 1) := by decide +kernel
theorem dX6_linkOf_11 : decode cX6_linkOf 11 = .ok (.ifCond .ne 12, 3) := by decide +kernel
theorem dX6_linkOf_14 : decode cX6_linkOf 14 = .ok (.aload_n 0, 1) := by decide +kernel
theorem dX6_linkOf_15 : decode cX6_linkOf 15 = .ok (.getfield 25, 3) := by decide +kernel
theorem dX6_linkOf_18 : decode cX6_linkOf 18 = .ok (.iload_n 2, 1) := by decide +kernel
theorem dX6_linkOf_19 : decode cX6_linkOf 19 = .ok (.baload, 1) := by decide +kernel
theorem dX6_linkOf_20 : decode cX6_linkOf 20 = .ok (.ifCond .eq 5, 3) := by decide +kernel
theorem dX6_linkOf_23 : decode cX6_linkOf 23 = .ok (.iconst 0, 1) := by decide +kernel
theorem dX6_linkOf_24 : decode cX6_linkOf 24 = .ok (.ireturn, 1) := by decide +kernel
theorem dX6_linkOf_25 : decode cX6_linkOf 25 = .ok (.aload_n 0, 1) := by decide +kernel
theorem dX6_linkOf_26 : decode cX6_linkOf 26 = .ok (.getfield 22, 3) := by decide +kernel
theorem dX6_linkOf_29 : decode cX6_linkOf 29 = .ok (.iload_n 1, 1) := by decide +kernel
theorem dX6_linkOf_30 : decode cX6_linkOf 30 = .ok (.iaload, 1) := by decide +kernel
theorem dX6_linkOf_31 : decode cX6_linkOf 31 = .ok (.istore 4, 2) := by decide +kernel
theorem dX6_linkOf_33 : decode cX6_linkOf 33 = .ok (.aload_n 0, 1) := by decide +kernel
theorem dX6_linkOf_34 : decode cX6_linkOf 34 = .ok (.getfield 22, 3) := by decide +kernel
theorem dX6_linkOf_37 : decode cX6_linkOf 37 = .ok (.iload_n 2, 1) := by decide +kernel
theorem dX6_linkOf_38 : decode cX6_linkOf 38 = .ok (.iaload, 1) := by decide +kernel
theorem dX6_linkOf_39 : decode cX6_linkOf 39 = .ok (.istore 5, 2) := by decide +kernel
theorem dX6_linkOf_41 : decode cX6_linkOf 41 = .ok (.iload 4, 2) := by decide +kernel
theorem dX6_linkOf_43 : decode cX6_linkOf 43 = .ok (.iload 5, 2) := by decide +kernel
theorem dX6_linkOf_45 : decode cX6_linkOf 45 = .ok (.if_icmp .ne 48, 3) := by decide +kernel
theorem dX6_linkOf_48 : decode cX6_linkOf 48 = .ok (.iload_n 1, 1) := by decide +kernel
theorem dX6_linkOf_49 : decode cX6_linkOf 49 = .ok (.iload_n 2, 1) := by decide +kernel
theorem dX6_linkOf_50 : decode cX6_linkOf 50 = .ok (.isub, 1) := by decide +kernel
theorem dX6_linkOf_51 : decode cX6_linkOf 51 = .ok (.invokestatic 128, 3) := by decide +kernel
theorem dX6_linkOf_54 : decode cX6_linkOf 54 = .ok (.istore 6, 2) := by decide +kernel
theorem dX6_linkOf_56 : decode cX6_linkOf 56 = .ok (.iload 6, 2) := by decide +kernel
theorem dX6_linkOf_58 : decode cX6_linkOf 58 = .ok (.iconst 1, 1) := by decide +kernel
theorem dX6_linkOf_59 : decode cX6_linkOf 59 = .ok (.if_icmp .eq 28, 3) := by decide +kernel
theorem dX6_linkOf_62 : decode cX6_linkOf 62 = .ok (.aload_n 0, 1) := by decide +kernel
theorem dX6_linkOf_63 : decode cX6_linkOf 63 = .ok (.getfield 9, 3) := by decide +kernel
theorem dX6_linkOf_66 : decode cX6_linkOf 66 = .ok (.iload 4, 2) := by decide +kernel
theorem dX6_linkOf_68 : decode cX6_linkOf 68 = .ok (.iaload, 1) := by decide +kernel
theorem dX6_linkOf_69 : decode cX6_linkOf 69 = .ok (.iconst 2, 1) := by decide +kernel
theorem dX6_linkOf_70 : decode cX6_linkOf 70 = .ok (.if_icmp .le 21, 3) := by decide +kernel
theorem dX6_linkOf_73 : decode cX6_linkOf 73 = .ok (.iload 6, 2) := by decide +kernel
theorem dX6_linkOf_75 : decode cX6_linkOf 75 = .ok (.aload_n 0, 1) := by decide +kernel
theorem dX6_linkOf_76 : decode cX6_linkOf 76 = .ok (.getfield 9, 3) := by decide +kernel
theorem dX6_linkOf_79 : decode cX6_linkOf 79 = .ok (.iload 4, 2) := by decide +kernel
theorem dX6_linkOf_81 : decode cX6_linkOf 81 = .ok (.iaload, 1) := by decide +kernel
theorem dX6_linkOf_82 : decode cX6_linkOf 82 = .ok (.iconst 1, 1) := by decide +kernel
theorem dX6_linkOf_83 : decode cX6_linkOf 83 = .ok (.isub, 1) := by decide +kernel
theorem dX6_linkOf_84 : decode cX6_linkOf 84 = .ok (.if_icmp .ne 7, 3) := by decide +kernel
theorem dX6_linkOf_87 : decode cX6_linkOf 87 = .ok (.iconst 2, 1) := by decide +kernel
theorem dX6_linkOf_88 : decode cX6_linkOf 88 = .ok (.goto 4, 3) := by decide +kernel
theorem dX6_linkOf_91 : decode cX6_linkOf 91 = .ok (.iconst 0, 1) := by decide +kernel
theorem dX6_linkOf_92 : decode cX6_linkOf 92 = .ok (.ireturn, 1) := by decide +kernel
theorem dX6_linkOf_93 : decode cX6_linkOf 93 = .ok (.iload 4, 2) := by decide +kernel
theorem dX6_linkOf_95 : decode cX6_linkOf 95 = .ok (.iload 5, 2) := by decide +kernel
theorem dX6_linkOf_97 : decode cX6_linkOf 97 = .ok (.isub, 1) := by decide +kernel
theorem dX6_linkOf_98 : decode cX6_linkOf 98 = .ok (.invokestatic 128, 3) := by decide +kernel
theorem dX6_linkOf_101 : decode cX6_linkOf 101 = .ok (.iconst 1, 1) := by decide +kernel
theorem dX6_linkOf_102 : decode cX6_linkOf 102 = .ok (.if_icmp .ne 26, 3) := by decide +kernel
theorem dX6_linkOf_105 : decode cX6_linkOf 105 = .ok (.aload_n 0, 1) := by decide +kernel
theorem dX6_linkOf_106 : decode cX6_linkOf 106 = .ok (.iload_n 1, 1) := by decide +kernel
theorem dX6_linkOf_107 : decode cX6_linkOf 107 = .ok (.iload_n 3, 1) := by decide +kernel
theorem dX6_linkOf_108 : decode cX6_linkOf 108 = .ok (.invokevirtual 124, 3) := by decide +kernel
theorem dX6_linkOf_111 : decode cX6_linkOf 111 = .ok (.aload_n 0, 1) := by decide +kernel
theorem dX6_linkOf_112 : decode cX6_linkOf 112 = .ok (.iload_n 2, 1) := by decide +kernel
theorem dX6_linkOf_113 : decode cX6_linkOf 113 = .ok (.iload_n 3, 1) := by decide +kernel
theorem dX6_linkOf_114 : decode cX6_linkOf 114 = .ok (.invokevirtual 124, 3) := by decide +kernel
theorem dX6_linkOf_117 : decode cX6_linkOf 117 = .ok (.invokestatic 137, 3) := by decide +kernel
theorem dX6_linkOf_120 : decode cX6_linkOf 120 = .ok (.iconst 2, 1) := by decide +kernel
theorem dX6_linkOf_121 : decode cX6_linkOf 121 = .ok (.if_icmp .gt 7, 3) := by decide +kernel
theorem dX6_linkOf_124 : decode cX6_linkOf 124 = .ok (.iconst 1, 1) := by decide +kernel
theorem dX6_linkOf_125 : decode cX6_linkOf 125 = .ok (.goto 4, 3) := by decide +kernel
theorem dX6_linkOf_128 : decode cX6_linkOf 128 = .ok (.iconst 0, 1) := by decide +kernel
theorem dX6_linkOf_129 : decode cX6_linkOf 129 = .ok (.ireturn, 1) := by decide +kernel
theorem dX6_seesOf_0 : decode cX6_seesOf 0 = .ok (.aload_n 0, 1) := by decide +kernel
theorem dX6_seesOf_1 : decode cX6_seesOf 1 = .ok (.getfield 25, 3) := by decide +kernel
theorem dX6_seesOf_4 : decode cX6_seesOf 4 = .ok (.iload_n 2, 1) := by decide +kernel
theorem dX6_seesOf_5 : decode cX6_seesOf 5 = .ok (.baload, 1) := by decide +kernel
theorem dX6_seesOf_6 : decode cX6_seesOf 6 = .ok (.ifCond .ne 51, 3) := by decide +kernel
theorem dX6_seesOf_9 : decode cX6_seesOf 9 = .ok (.aload_n 0, 1) := by decide +kernel
theorem dX6_seesOf_10 : decode cX6_seesOf 10 = .ok (.getfield 22, 3) := by decide +kernel
theorem dX6_seesOf_13 : decode cX6_seesOf 13 = .ok (.iload_n 2, 1) := by decide +kernel
theorem dX6_seesOf_14 : decode cX6_seesOf 14 = .ok (.iaload, 1) := by decide +kernel
theorem dX6_seesOf_15 : decode cX6_seesOf 15 = .ok (.aload_n 0, 1) := by decide +kernel
theorem dX6_seesOf_16 : decode cX6_seesOf 16 = .ok (.getfield 32, 3) := by decide +kernel
theorem dX6_seesOf_19 : decode cX6_seesOf 19 = .ok (.iload_n 1, 1) := by decide +kernel
theorem dX6_seesOf_20 : decode cX6_seesOf 20 = .ok (.iaload, 1) := by decide +kernel
theorem dX6_seesOf_21 : decode cX6_seesOf 21 = .ok (.isub, 1) := by decide +kernel
theorem dX6_seesOf_22 : decode cX6_seesOf 22 = .ok (.invokestatic 128, 3) := by decide +kernel
theorem dX6_seesOf_25 : decode cX6_seesOf 25 = .ok (.iconst 1, 1) := by decide +kernel
theorem dX6_seesOf_26 : decode cX6_seesOf 26 = .ok (.if_icmp .gt 31, 3) := by decide +kernel
theorem dX6_seesOf_29 : decode cX6_seesOf 29 = .ok (.aload_n 0, 1) := by decide +kernel
theorem dX6_seesOf_30 : decode cX6_seesOf 30 = .ok (.iload_n 2, 1) := by decide +kernel
theorem dX6_seesOf_31 : decode cX6_seesOf 31 = .ok (.iload_n 3, 1) := by decide +kernel
theorem dX6_seesOf_32 : decode cX6_seesOf 32 = .ok (.invokevirtual 124, 3) := by decide +kernel
theorem dX6_seesOf_35 : decode cX6_seesOf 35 = .ok (.aload_n 0, 1) := by decide +kernel
theorem dX6_seesOf_36 : decode cX6_seesOf 36 = .ok (.getfield 29, 3) := by decide +kernel
theorem dX6_seesOf_39 : decode cX6_seesOf 39 = .ok (.iload_n 1, 1) := by decide +kernel
theorem dX6_seesOf_40 : decode cX6_seesOf 40 = .ok (.iaload, 1) := by decide +kernel
theorem dX6_seesOf_41 : decode cX6_seesOf 41 = .ok (.invokestatic 137, 3) := by decide +kernel
theorem dX6_seesOf_44 : decode cX6_seesOf 44 = .ok (.aload_n 0, 1) := by decide +kernel
theorem dX6_seesOf_45 : decode cX6_seesOf 45 = .ok (.getfield 35, 3) := by decide +kernel
theorem dX6_seesOf_48 : decode cX6_seesOf 48 = .ok (.iload_n 1, 1) := by decide +kernel
theorem dX6_seesOf_49 : decode cX6_seesOf 49 = .ok (.iaload, 1) := by decide +kernel
theorem dX6_seesOf_50 : decode cX6_seesOf 50 = .ok (.if_icmp .gt 7, 3) := by decide +kernel
theorem dX6_seesOf_53 : decode cX6_seesOf 53 = .ok (.iconst 1, 1) := by decide +kernel
theorem dX6_seesOf_54 : decode cX6_seesOf 54 = .ok (.goto 4, 3) := by decide +kernel
theorem dX6_seesOf_57 : decode cX6_seesOf 57 = .ok (.iconst 0, 1) := by decide +kernel
theorem dX6_seesOf_58 : decode cX6_seesOf 58 = .ok (.ireturn, 1) := by decide +kernel
theorem dX6_taken_0 : decode cX6_taken 0 = .ok (.aload_n 0, 1) := by decide +kernel
theorem dX6_taken_1 : decode cX6_taken 1 = .ok (.iload_n 1, 1) := by decide +kernel
theorem dX6_taken_2 : decode cX6_taken 2 = .ok (.iload_n 2, 1) := by decide +kernel
theorem dX6_taken_3 : decode cX6_taken 3 = .ok (.iload_n 3, 1) := by decide +kernel
theorem dX6_taken_4 : decode cX6_taken 4 = .ok (.invokevirtual 140, 3) := by decide +kernel
theorem dX6_taken_7 : decode cX6_taken 7 = .ok (.istore 4, 2) := by decide +kernel
theorem dX6_taken_9 : decode cX6_taken 9 = .ok (.iconst 1, 1) := by decide +kernel
theorem dX6_taken_10 : decode cX6_taken 10 = .ok (.istore 5, 2) := by decide +kernel
theorem dX6_taken_12 : decode cX6_taken 12 = .ok (.iload 5, 2) := by decide +kernel
theorem dX6_taken_14 : decode cX6_taken 14 = .ok (.iload 4, 2) := by decide +kernel
theorem dX6_taken_16 : decode cX6_taken 16 = .ok (.if_icmp .gt 24, 3) := by decide +kernel
theorem dX6_taken_19 : decode cX6_taken 19 = .ok (.aload_n 0, 1) := by decide +kernel
theorem dX6_taken_20 : decode cX6_taken 20 = .ok (.iload_n 1, 1) := by decide +kernel
theorem dX6_taken_21 : decode cX6_taken 21 = .ok (.iload_n 2, 1) := by decide +kernel
theorem dX6_taken_22 : decode cX6_taken 22 = .ok (.iload_n 3, 1) := by decide +kernel
theorem dX6_taken_23 : decode cX6_taken 23 = .ok (.iload 5, 2) := by decide +kernel
theorem dX6_taken_25 : decode cX6_taken 25 = .ok (.iadd, 1) := by decide +kernel
theorem dX6_taken_26 : decode cX6_taken 26 = .ok (.invokevirtual 140, 3) := by decide +kernel
theorem dX6_taken_29 : decode cX6_taken 29 = .ok (.ifCond .ne 5, 3) := by decide +kernel
theorem dX6_taken_32 : decode cX6_taken 32 = .ok (.iconst 0, 1) := by decide +kernel
theorem dX6_taken_33 : decode cX6_taken 33 = .ok (.ireturn, 1) := by decide +kernel
theorem dX6_taken_34 : decode cX6_taken 34 = .ok (.iinc 5 1, 3) := by decide +kernel
theorem dX6_taken_37 : decode cX6_taken 37 = .ok (.goto (-25), 3) := by decide +kernel
theorem dX6_taken_40 : decode cX6_taken 40 = .ok (.iload 4, 2) := by decide +kernel
theorem dX6_taken_42 : decode cX6_taken 42 = .ok (.ireturn, 1) := by decide +kernel
theorem dX6_takesPost_0 : decode cX6_takesPost 0 = .ok (.aload_n 0, 1) := by decide +kernel
theorem dX6_takesPost_1 : decode cX6_takesPost 1 = .ok (.iload_n 1, 1) := by decide +kernel
theorem dX6_takesPost_2 : decode cX6_takesPost 2 = .ok (.iload_n 2, 1) := by decide +kernel
theorem dX6_takesPost_3 : decode cX6_takesPost 3 = .ok (.iload_n 3, 1) := by decide +kernel
theorem dX6_takesPost_4 : decode cX6_takesPost 4 = .ok (.invokevirtual 144, 3) := by decide +kernel
theorem dX6_takesPost_7 : decode cX6_takesPost 7 = .ok (.ifCond .eq 19, 3) := by decide +kernel
theorem dX6_takesPost_10 : decode cX6_takesPost 10 = .ok (.aload_n 0, 1) := by decide +kernel
theorem dX6_takesPost_11 : decode cX6_takesPost 11 = .ok (.iload_n 1, 1) := by decide +kernel
theorem dX6_takesPost_12 : decode cX6_takesPost 12 = .ok (.iload_n 2, 1) := by decide +kernel
theorem dX6_takesPost_13 : decode cX6_takesPost 13 = .ok (.iload_n 3, 1) := by decide +kernel
theorem dX6_takesPost_14 : decode cX6_takesPost 14 = .ok (.iconst 1, 1) := by decide +kernel
theorem dX6_takesPost_15 : decode cX6_takesPost 15 = .ok (.iadd, 1) := by decide +kernel
theorem dX6_takesPost_16 : decode cX6_takesPost 16 = .ok (.invokevirtual 144, 3) := by decide +kernel
theorem dX6_takesPost_19 : decode cX6_takesPost 19 = .ok (.ifCond .eq 7, 3) := by decide +kernel
theorem dX6_takesPost_22 : decode cX6_takesPost 22 = .ok (.iconst 1, 1) := by decide +kernel
theorem dX6_takesPost_23 : decode cX6_takesPost 23 = .ok (.goto 4, 3) := by decide +kernel
theorem dX6_takesPost_26 : decode cX6_takesPost 26 = .ok (.iconst 0, 1) := by decide +kernel
theorem dX6_takesPost_27 : decode cX6_takesPost 27 = .ok (.ireturn, 1) := by decide +kernel
theorem dX6_dead_0 : decode cX6_dead 0 = .ok (.aload_n 0, 1) := by decide +kernel
theorem dX6_dead_1 : decode cX6_dead 1 = .ok (.iconst 0, 1) := by decide +kernel
theorem dX6_dead_2 : decode cX6_dead 2 = .ok (.putfield 89, 3) := by decide +kernel
theorem dX6_dead_5 : decode cX6_dead 5 = .ok (.aload_n 0, 1) := by decide +kernel
theorem dX6_dead_6 : decode cX6_dead 6 = .ok (.aload_n 0, 1) := by decide +kernel
theorem dX6_dead_7 : decode cX6_dead 7 = .ok (.iload_n 1, 1) := by decide +kernel
theorem dX6_dead_8 : decode cX6_dead 8 = .ok (.invokevirtual 117, 3) := by decide +kernel
theorem dX6_dead_11 : decode cX6_dead 11 = .ok (.iconst 1, 1) := by decide +kernel
theorem dX6_dead_12 : decode cX6_dead 12 = .ok (.invokevirtual 107, 3) := by decide +kernel
theorem dX6_dead_15 : decode cX6_dead 15 = .ok (.ifCond .eq 5, 3) := by decide +kernel
theorem dX6_dead_18 : decode cX6_dead 18 = .ok (.iconst 0, 1) := by decide +kernel
theorem dX6_dead_19 : decode cX6_dead 19 = .ok (.ireturn, 1) := by decide +kernel
theorem dX6_dead_20 : decode cX6_dead 20 = .ok (.aload_n 0, 1) := by decide +kernel
theorem dX6_dead_21 : decode cX6_dead 21 = .ok (.getfield 25, 3) := by decide +kernel
theorem dX6_dead_24 : decode cX6_dead 24 = .ok (.iload_n 1, 1) := by decide +kernel
theorem dX6_dead_25 : decode cX6_dead 25 = .ok (.baload, 1) := by decide +kernel
theorem dX6_dead_26 : decode cX6_dead 26 = .ok (.istore_n 3, 1) := by decide +kernel
theorem dX6_dead_27 : decode cX6_dead 27 = .ok (.aload_n 0, 1) := by decide +kernel
theorem dX6_dead_28 : decode cX6_dead 28 = .ok (.getfield 25, 3) := by decide +kernel
theorem dX6_dead_31 : decode cX6_dead 31 = .ok (.iload_n 1, 1) := by decide +kernel
theorem dX6_dead_32 : decode cX6_dead 32 = .ok (.iload_n 2, 1) := by decide +kernel
theorem dX6_dead_33 : decode cX6_dead 33 = .ok (.bastore, 1) := by decide +kernel
theorem dX6_dead_34 : decode cX6_dead 34 = .ok (.iload_n 3, 1) := by decide +kernel
theorem dX6_dead_35 : decode cX6_dead 35 = .ok (.iload_n 2, 1) := by decide +kernel
theorem dX6_dead_36 : decode cX6_dead 36 = .ok (.if_icmp .ne 5, 3) := by decide +kernel
theorem dX6_dead_39 : decode cX6_dead 39 = .ok (.iconst 0, 1) := by decide +kernel
theorem dX6_dead_40 : decode cX6_dead 40 = .ok (.ireturn, 1) := by decide +kernel
theorem dX6_dead_41 : decode cX6_dead 41 = .ok (.aload_n 0, 1) := by decide +kernel
theorem dX6_dead_42 : decode cX6_dead 42 = .ok (.invokevirtual 114, 3) := by decide +kernel
theorem dX6_dead_45 : decode cX6_dead 45 = .ok (.iload_n 2, 1) := by decide +kernel
theorem dX6_dead_46 : decode cX6_dead 46 = .ok (.ifCond .ne 5, 3) := by decide +kernel
theorem dX6_dead_49 : decode cX6_dead 49 = .ok (.iconst 1, 1) := by decide +kernel
theorem dX6_dead_50 : decode cX6_dead 50 = .ok (.ireturn, 1) := by decide +kernel
theorem dX6_dead_51 : decode cX6_dead 51 = .ok (.iconst 0, 1) := by decide +kernel
theorem dX6_dead_52 : decode cX6_dead 52 = .ok (.istore 4, 2) := by decide +kernel
theorem dX6_dead_54 : decode cX6_dead 54 = .ok (.iload 4, 2) := by decide +kernel
theorem dX6_dead_56 : decode cX6_dead 56 = .ok (.aload_n 0, 1) := by decide +kernel
theorem dX6_dead_57 : decode cX6_dead 57 = .ok (.getfield 104, 3) := by decide +kernel
theorem dX6_dead_60 : decode cX6_dead 60 = .ok (.if_icmp .ge 84, 3) := by decide +kernel
theorem dX6_dead_63 : decode cX6_dead 63 = .ok (.aload_n 0, 1) := by decide +kernel
theorem dX6_dead_64 : decode cX6_dead 64 = .ok (.getfield 59, 3) := by decide +kernel
theorem dX6_dead_67 : decode cX6_dead 67 = .ok (.iload 4, 2) := by decide +kernel
theorem dX6_dead_69 : decode cX6_dead 69 = .ok (.iaload, 1) := by decide +kernel
theorem dX6_dead_70 : decode cX6_dead 70 = .ok (.iconst 1, 1) := by decide +kernel
theorem dX6_dead_71 : decode cX6_dead 71 = .ok (.if_icmp .ne 14, 3) := by decide +kernel
theorem dX6_dead_74 : decode cX6_dead 74 = .ok (.aload_n 0, 1) := by decide +kernel
theorem dX6_dead_75 : decode cX6_dead 75 = .ok (.getfield 62, 3) := by decide +kernel
theorem dX6_dead_78 : decode cX6_dead 78 = .ok (.iload 4, 2) := by decide +kernel
theorem dX6_dead_80 : decode cX6_dead 80 = .ok (.iaload, 1) := by decide +kernel
theorem dX6_dead_81 : decode cX6_dead 81 = .ok (.iload_n 1, 1) := by decide +kernel
theorem dX6_dead_82 : decode cX6_dead 82 = .ok (.if_icmp .eq 36, 3) := by decide +kernel
theorem dX6_dead_85 : decode cX6_dead 85 = .ok (.aload_n 0, 1) := by decide +kernel
theorem dX6_dead_86 : decode cX6_dead 86 = .ok (.getfield 59, 3) := by decide +kernel
theorem dX6_dead_89 : decode cX6_dead 89 = .ok (.iload 4, 2) := by decide +kernel
theorem dX6_dead_91 : decode cX6_dead 91 = .ok (.iaload, 1) := by decide +kernel
theorem dX6_dead_92 : decode cX6_dead 92 = .ok (.iconst 2, 1) := by decide +kernel
theorem dX6_dead_93 : decode cX6_dead 93 = .ok (.if_icmp .ne 29, 3) := by decide +kernel
theorem dX6_dead_96 : decode cX6_dead 96 = .ok (.aload_n 0, 1) := by decide +kernel
theorem dX6_dead_97 : decode cX6_dead 97 = .ok (.getfield 62, 3) := by decide +kernel
theorem dX6_dead_100 : decode cX6_dead 100 = .ok (.iload 4, 2) := by decide +kernel
theorem dX6_dead_102 : decode cX6_dead 102 = .ok (.iaload, 1) := by decide +kernel
theorem dX6_dead_103 : decode cX6_dead 103 = .ok (.iload_n 1, 1) := by decide +kernel
theorem dX6_dead_104 : decode cX6_dead 104 = .ok (.if_icmp .eq 14, 3) := by decide +kernel
theorem dX6_dead_107 : decode cX6_dead 107 = .ok (.aload_n 0, 1) := by decide +kernel
theorem dX6_dead_108 : decode cX6_dead 108 = .ok (.getfield 65, 3) := by decide +kernel
theorem dX6_dead_111 : decode cX6_dead 111 = .ok (.iload 4, 2) := by decide +kernel
theorem dX6_dead_113 : decode cX6_dead 113 = .ok (.iaload, 1) := by decide +kernel
theorem dX6_dead_114 : decode cX6_dead 114 = .ok (.iload_n 1, 1) := by decide +kernel
theorem dX6_dead_115 : decode cX6_dead 115 = .ok (.if_icmp .ne 7, 3) := by decide +kernel
theorem dX6_dead_118 : decode cX6_dead 118 = .ok (.iconst 1, 1) := by decide +kernel
theorem dX6_dead_119 : decode cX6_dead 119 = .ok (.goto 4, 3) := by decide +kernel
theorem dX6_dead_122 : decode cX6_dead 122 = .ok (.iconst 0, 1) := by decide +kernel
theorem dX6_dead_123 : decode cX6_dead 123 = .ok (.istore 5, 2) := by decide +kernel
theorem dX6_dead_125 : decode cX6_dead 125 = .ok (.iload 5, 2) := by decide +kernel
theorem dX6_dead_127 : decode cX6_dead 127 = .ok (.ifCond .eq 11, 3) := by decide +kernel
theorem dX6_dead_130 : decode cX6_dead 130 = .ok (.aload_n 0, 1) := by decide +kernel
theorem dX6_dead_131 : decode cX6_dead 131 = .ok (.getfield 59, 3) := by decide +kernel
theorem dX6_dead_134 : decode cX6_dead 134 = .ok (.iload 4, 2) := by decide +kernel
theorem dX6_dead_136 : decode cX6_dead 136 = .ok (.iconst 5, 1) := by decide +kernel
theorem dX6_dead_137 : decode cX6_dead 137 = .ok (.iastore, 1) := by decide +kernel
theorem dX6_dead_138 : decode cX6_dead 138 = .ok (.iinc 4 1, 3) := by decide +kernel
theorem dX6_dead_141 : decode cX6_dead 141 = .ok (.goto (-87), 3) := by decide +kernel
theorem dX6_dead_144 : decode cX6_dead 144 = .ok (.aload_n 0, 1) := by decide +kernel
theorem dX6_dead_145 : decode cX6_dead 145 = .ok (.invokevirtual 147, 3) := by decide +kernel
theorem dX6_dead_148 : decode cX6_dead 148 = .ok (.iconst 1, 1) := by decide +kernel
theorem dX6_dead_149 : decode cX6_dead 149 = .ok (.ireturn, 1) := by decide +kernel
theorem dX6_link_0 : decode cX6_link 0 = .ok (.aload_n 0, 1) := by decide +kernel
theorem dX6_link_1 : decode cX6_link 1 = .ok (.iconst 0, 1) := by decide +kernel
theorem dX6_link_2 : decode cX6_link 2 = .ok (.putfield 89, 3) := by decide +kernel
theorem dX6_link_5 : decode cX6_link 5 = .ok (.aload_n 0, 1) := by decide +kernel
theorem dX6_link_6 : decode cX6_link 6 = .ok (.aload_n 0, 1) := by decide +kernel
theorem dX6_link_7 : decode cX6_link 7 = .ok (.iload_n 1, 1) := by decide +kernel
theorem dX6_link_8 : decode cX6_link 8 = .ok (.invokevirtual 117, 3) := by decide +kernel
theorem dX6_link_11 : decode cX6_link 11 = .ok (.ifCond .ne 11, 3) := by decide +kernel
theorem dX6_link_14 : decode cX6_link 14 = .ok (.aload_n 0, 1) := by decide +kernel
theorem dX6_link_15 : decode cX6_link 15 = .ok (.iload_n 2, 1) := by decide +kernel
theorem dX6_link_16 : decode cX6_link 16 = .ok (.invokevirtual 117, 3) := by decide +kernel
theorem dX6_link_19 : decode cX6_link 19 = .ok (.ifCond .eq 7, 3) := by decide +kernel
theorem dX6_link_22 : decode cX6_link 22 = .ok (.iconst 1, 1) := by decide +kernel
theorem dX6_link_23 : decode cX6_link 23 = .ok (.goto 4, 3) := by decide +kernel
theorem dX6_link_26 : decode cX6_link 26 = .ok (.iconst 0, 1) := by decide +kernel
theorem dX6_link_27 : decode cX6_link 27 = .ok (.iconst 1, 1) := by decide +kernel
theorem dX6_link_28 : decode cX6_link 28 = .ok (.invokevirtual 107, 3) := by decide +kernel
theorem dX6_link_31 : decode cX6_link 31 = .ok (.ifCond .ne 15, 3) := by decide +kernel
theorem dX6_link_34 : decode cX6_link 34 = .ok (.aload_n 0, 1) := by decide +kernel
theorem dX6_link_35 : decode cX6_link 35 = .ok (.iload_n 3, 1) := by decide +kernel
theorem dX6_link_36 : decode cX6_link 36 = .ok (.invokestatic 121, 3) := by decide +kernel
theorem dX6_link_39 : decode cX6_link 39 = .ok (.iconst 2, 1) := by decide +kernel
theorem dX6_link_40 : decode cX6_link 40 = .ok (.invokevirtual 107, 3) := by decide +kernel
theorem dX6_link_43 : decode cX6_link 43 = .ok (.ifCond .eq 7, 3) := by decide +kernel
theorem dX6_link_46 : decode cX6_link 46 = .ok (.iconst 0, 1) := by decide +kernel
theorem dX6_link_47 : decode cX6_link 47 = .ok (.goto 10, 3) := by decide +kernel
theorem dX6_link_50 : decode cX6_link 50 = .ok (.aload_n 0, 1) := by decide +kernel
theorem dX6_link_51 : decode cX6_link 51 = .ok (.iload_n 1, 1) := by decide +kernel
theorem dX6_link_52 : decode cX6_link 52 = .ok (.iload_n 2, 1) := by decide +kernel
theorem dX6_link_53 : decode cX6_link 53 = .ok (.iload_n 3, 1) := by decide +kernel
theorem dX6_link_54 : decode cX6_link 54 = .ok (.invokevirtual 140, 3) := by decide +kernel
theorem dX6_link_57 : decode cX6_link 57 = .ok (.ireturn, 1) := by decide +kernel
theorem dX6_sees_0 : decode cX6_sees 0 = .ok (.aload_n 0, 1) := by decide +kernel
theorem dX6_sees_1 : decode cX6_sees 1 = .ok (.iconst 0, 1) := by decide +kernel
theorem dX6_sees_2 : decode cX6_sees 2 = .ok (.putfield 89, 3) := by decide +kernel
theorem dX6_sees_5 : decode cX6_sees 5 = .ok (.aload_n 0, 1) := by decide +kernel
theorem dX6_sees_6 : decode cX6_sees 6 = .ok (.aload_n 0, 1) := by decide +kernel
theorem dX6_sees_7 : decode cX6_sees 7 = .ok (.iload_n 1, 1) := by decide +kernel
theorem dX6_sees_8 : decode cX6_sees 8 = .ok (.invokevirtual 150, 3) := by decide +kernel
theorem dX6_sees_11 : decode cX6_sees 11 = .ok (.ifCond .ne 11, 3) := by decide +kernel
theorem dX6_sees_14 : decode cX6_sees 14 = .ok (.aload_n 0, 1) := by decide +kernel
theorem dX6_sees_15 : decode cX6_sees 15 = .ok (.iload_n 2, 1) := by decide +kernel
theorem dX6_sees_16 : decode cX6_sees 16 = .ok (.invokevirtual 117, 3) := by decide +kernel
theorem dX6_sees_19 : decode cX6_sees 19 = .ok (.ifCond .eq 7, 3) := by decide +kernel
theorem dX6_sees_22 : decode cX6_sees 22 = .ok (.iconst 1, 1) := by decide +kernel
theorem dX6_sees_23 : decode cX6_sees 23 = .ok (.goto 4, 3) := by decide +kernel
theorem dX6_sees_26 : decode cX6_sees 26 = .ok (.iconst 0, 1) := by decide +kernel
theorem dX6_sees_27 : decode cX6_sees 27 = .ok (.iconst 1, 1) := by decide +kernel
theorem dX6_sees_28 : decode cX6_sees 28 = .ok (.invokevirtual 107, 3) := by decide +kernel
theorem dX6_sees_31 : decode cX6_sees 31 = .ok (.ifCond .ne 29, 3) := by decide +kernel
theorem dX6_sees_34 : decode cX6_sees 34 = .ok (.aload_n 0, 1) := by decide +kernel
theorem dX6_sees_35 : decode cX6_sees 35 = .ok (.iload_n 3, 1) := by decide +kernel
theorem dX6_sees_36 : decode cX6_sees 36 = .ok (.invokestatic 121, 3) := by decide +kernel
theorem dX6_sees_39 : decode cX6_sees 39 = .ok (.iconst 2, 1) := by decide +kernel
theorem dX6_sees_40 : decode cX6_sees 40 = .ok (.invokevirtual 107, 3) := by decide +kernel
theorem dX6_sees_43 : decode cX6_sees 43 = .ok (.ifCond .ne 17, 3) := by decide +kernel
theorem dX6_sees_46 : decode cX6_sees 46 = .ok (.aload_n 0, 1) := by decide +kernel
theorem dX6_sees_47 : decode cX6_sees 47 = .ok (.iload_n 1, 1) := by decide +kernel
theorem dX6_sees_48 : decode cX6_sees 48 = .ok (.iload_n 2, 1) := by decide +kernel
theorem dX6_sees_49 : decode cX6_sees 49 = .ok (.iload_n 3, 1) := by decide +kernel
theorem dX6_sees_50 : decode cX6_sees 50 = .ok (.invokevirtual 144, 3) := by decide +kernel
theorem dX6_sees_53 : decode cX6_sees 53 = .ok (.ifCond .eq 7, 3) := by decide +kernel
theorem dX6_sees_56 : decode cX6_sees 56 = .ok (.iconst 1, 1) := by decide +kernel
theorem dX6_sees_57 : decode cX6_sees 57 = .ok (.goto 4, 3) := by decide +kernel
theorem dX6_sees_60 : decode cX6_sees 60 = .ok (.iconst 0, 1) := by decide +kernel
theorem dX6_sees_61 : decode cX6_sees 61 = .ok (.ireturn, 1) := by decide +kernel
theorem dX6_takesFrom_0 : decode cX6_takesFrom 0 = .ok (.aload_n 0, 1) := by decide +kernel
theorem dX6_takesFrom_1 : decode cX6_takesFrom 1 = .ok (.getfield 38, 3) := by decide +kernel
theorem dX6_takesFrom_4 : decode cX6_takesFrom 4 = .ok (.bipush 48, 2) := by decide +kernel
theorem dX6_takesFrom_6 : decode cX6_takesFrom 6 = .ok (.iload_n 1, 1) := by decide +kernel
theorem dX6_takesFrom_7 : decode cX6_takesFrom 7 = .ok (.imul, 1) := by decide +kernel
theorem dX6_takesFrom_8 : decode cX6_takesFrom 8 = .ok (.iload_n 2, 1) := by decide +kernel
theorem dX6_takesFrom_9 : decode cX6_takesFrom 9 = .ok (.iadd, 1) := by decide +kernel
theorem dX6_takesFrom_10 : decode cX6_takesFrom 10 = .ok (.bipush 32, 2) := by decide +kernel
theorem dX6_takesFrom_12 : decode cX6_takesFrom 12 = .ok (.imul, 1) := by decide +kernel
theorem dX6_takesFrom_13 : decode cX6_takesFrom 13 = .ok (.iload_n 3, 1) := by decide +kernel
theorem dX6_takesFrom_14 : decode cX6_takesFrom 14 = .ok (.bipush 32, 2) := by decide +kernel
theorem dX6_takesFrom_16 : decode cX6_takesFrom 16 = .ok (.irem, 1) := by decide +kernel
theorem dX6_takesFrom_17 : decode cX6_takesFrom 17 = .ok (.iadd, 1) := by decide +kernel
theorem dX6_takesFrom_18 : decode cX6_takesFrom 18 = .ok (.iaload, 1) := by decide +kernel
theorem dX6_takesFrom_19 : decode cX6_takesFrom 19 = .ok (.ireturn, 1) := by decide +kernel
theorem dX6_knows_0 : decode cX6_knows 0 = .ok (.aload_n 0, 1) := by decide +kernel
theorem dX6_knows_1 : decode cX6_knows 1 = .ok (.getfield 41, 3) := by decide +kernel
theorem dX6_knows_4 : decode cX6_knows 4 = .ok (.iload_n 1, 1) := by decide +kernel
theorem dX6_knows_5 : decode cX6_knows 5 = .ok (.baload, 1) := by decide +kernel
theorem dX6_knows_6 : decode cX6_knows 6 = .ok (.ifCond .eq 4, 3) := by decide +kernel
theorem dX6_knows_9 : decode cX6_knows 9 = .ok (.return_, 1) := by decide +kernel
theorem dX6_knows_10 : decode cX6_knows 10 = .ok (.aload_n 0, 1) := by decide +kernel
theorem dX6_knows_11 : decode cX6_knows 11 = .ok (.getfield 41, 3) := by decide +kernel
theorem dX6_knows_14 : decode cX6_knows 14 = .ok (.iload_n 1, 1) := by decide +kernel
theorem dX6_knows_15 : decode cX6_knows 15 = .ok (.iconst 1, 1) := by decide +kernel
theorem dX6_knows_16 : decode cX6_knows 16 = .ok (.bastore, 1) := by decide +kernel
theorem dX6_knows_17 : decode cX6_knows 17 = .ok (.bipush 48, 2) := by decide +kernel
theorem dX6_knows_19 : decode cX6_knows 19 = .ok (.iload_n 1, 1) := by decide +kernel
theorem dX6_knows_20 : decode cX6_knows 20 = .ok (.imul, 1) := by decide +kernel
theorem dX6_knows_21 : decode cX6_knows 21 = .ok (.bipush 32, 2) := by decide +kernel
theorem dX6_knows_23 : decode cX6_knows 23 = .ok (.imul, 1) := by decide +kernel
theorem dX6_knows_24 : decode cX6_knows 24 = .ok (.istore_n 2, 1) := by decide +kernel
theorem dX6_knows_25 : decode cX6_knows 25 = .ok (.iload_n 2, 1) := by decide +kernel
theorem dX6_knows_26 : decode cX6_knows 26 = .ok (.istore_n 3, 1) := by decide +kernel
theorem dX6_knows_27 : decode cX6_knows 27 = .ok (.iload_n 3, 1) := by decide +kernel
theorem dX6_knows_28 : decode cX6_knows 28 = .ok (.iload_n 2, 1) := by decide +kernel
theorem dX6_knows_29 : decode cX6_knows 29 = .ok (.sipush 1536, 3) := by decide +kernel
theorem dX6_knows_32 : decode cX6_knows 32 = .ok (.iadd, 1) := by decide +kernel
theorem dX6_knows_33 : decode cX6_knows 33 = .ok (.if_icmp .ge 17, 3) := by decide +kernel
theorem dX6_knows_36 : decode cX6_knows 36 = .ok (.aload_n 0, 1) := by decide +kernel
theorem dX6_knows_37 : decode cX6_knows 37 = .ok (.getfield 38, 3) := by decide +kernel
theorem dX6_knows_40 : decode cX6_knows 40 = .ok (.iload_n 3, 1) := by decide +kernel
theorem dX6_knows_41 : decode cX6_knows 41 = .ok (.ldc 153, 2) := by decide +kernel
theorem dX6_knows_43 : decode cX6_knows 43 = .ok (.iastore, 1) := by decide +kernel
theorem dX6_knows_44 : decode cX6_knows 44 = .ok (.iinc 3 1, 3) := by decide +kernel
theorem dX6_knows_47 : decode cX6_knows 47 = .ok (.goto (-20), 3) := by decide +kernel
theorem dX6_knows_50 : decode cX6_knows 50 = .ok (.iconst 1, 1) := by decide +kernel
theorem dX6_knows_51 : decode cX6_knows 51 = .ok (.istore_n 3, 1) := by decide +kernel
theorem dX6_knows_52 : decode cX6_knows 52 = .ok (.iload_n 3, 1) := by decide +kernel
theorem dX6_knows_53 : decode cX6_knows 53 = .ok (.ifCond .eq 170, 3) := by decide +kernel
theorem dX6_knows_56 : decode cX6_knows 56 = .ok (.iconst 0, 1) := by decide +kernel
theorem dX6_knows_57 : decode cX6_knows 57 = .ok (.istore_n 3, 1) := by decide +kernel
theorem dX6_knows_58 : decode cX6_knows 58 = .ok (.bipush 63, 2) := by decide +kernel
theorem dX6_knows_60 : decode cX6_knows 60 = .ok (.istore 4, 2) := by decide +kernel
theorem dX6_knows_62 : decode cX6_knows 62 = .ok (.iload 4, 2) := by decide +kernel
theorem dX6_knows_64 : decode cX6_knows 64 = .ok (.ifCond .lt 156, 3) := by decide +kernel
theorem dX6_knows_67 : decode cX6_knows 67 = .ok (.iconst 0, 1) := by decide +kernel
theorem dX6_knows_68 : decode cX6_knows 68 = .ok (.istore 5, 2) := by decide +kernel
theorem dX6_knows_70 : decode cX6_knows 70 = .ok (.iload 5, 2) := by decide +kernel
theorem dX6_knows_72 : decode cX6_knows 72 = .ok (.aload_n 0, 1) := by decide +kernel
theorem dX6_knows_73 : decode cX6_knows 73 = .ok (.getfield 93, 3) := by decide +kernel
theorem dX6_knows_76 : decode cX6_knows 76 = .ok (.if_icmp .ge 138, 3) := by decide +kernel
theorem dX6_knows_79 : decode cX6_knows 79 = .ok (.iconst 1, 1) := by decide +kernel
theorem dX6_knows_80 : decode cX6_knows 80 = .ok (.aload_n 0, 1) := by decide +kernel
theorem dX6_knows_81 : decode cX6_knows 81 = .ok (.iload_n 1, 1) := by decide +kernel
theorem dX6_knows_82 : decode cX6_knows 82 = .ok (.iload 5, 2) := by decide +kernel
theorem dX6_knows_84 : decode cX6_knows 84 = .ok (.iload 4, 2) := by decide +kernel
theorem dX6_knows_86 : decode cX6_knows 86 = .ok (.iconst 1, 1) := by decide +kernel
theorem dX6_knows_87 : decode cX6_knows 87 = .ok (.iadd, 1) := by decide +kernel
theorem dX6_knows_88 : decode cX6_knows 88 = .ok (.invokevirtual 154, 3) := by decide +kernel
theorem dX6_knows_91 : decode cX6_knows 91 = .ok (.iadd, 1) := by decide +kernel
theorem dX6_knows_92 : decode cX6_knows 92 = .ok (.istore 6, 2) := by decide +kernel
theorem dX6_knows_94 : decode cX6_knows 94 = .ok (.aload_n 0, 1) := by decide +kernel
theorem dX6_knows_95 : decode cX6_knows 95 = .ok (.iload_n 1, 1) := by decide +kernel
theorem dX6_knows_96 : decode cX6_knows 96 = .ok (.iload 5, 2) := by decide +kernel
theorem dX6_knows_98 : decode cX6_knows 98 = .ok (.iload 4, 2) := by decide +kernel
theorem dX6_knows_100 : decode cX6_knows 100 = .ok (.invokevirtual 157, 3) := by decide +kernel
theorem dX6_knows_103 : decode cX6_knows 103 = .ok (.ifCond .eq 6, 3) := by decide +kernel
theorem dX6_knows_106 : decode cX6_knows 106 = .ok (.iconst 1, 1) := by decide +kernel
theorem dX6_knows_107 : decode cX6_knows 107 = .ok (.istore 6, 2) := by decide +kernel
theorem dX6_knows_109 : decode cX6_knows 109 = .ok (.iconst 0, 1) := by decide +kernel
theorem dX6_knows_110 : decode cX6_knows 110 = .ok (.istore 7, 2) := by decide +kernel
theorem dX6_knows_112 : decode cX6_knows 112 = .ok (.iload 7, 2) := by decide +kernel
theorem dX6_knows_114 : decode cX6_knows 114 = .ok (.aload_n 0, 1) := by decide +kernel
theorem dX6_knows_115 : decode cX6_knows 115 = .ok (.getfield 93, 3) := by decide +kernel
theorem dX6_knows_118 : decode cX6_knows 118 = .ok (.if_icmp .ge 48, 3) := by decide +kernel
theorem dX6_knows_121 : decode cX6_knows 121 = .ok (.aload_n 0, 1) := by decide +kernel
theorem dX6_knows_122 : decode cX6_knows 122 = .ok (.iload 5, 2) := by decide +kernel
theorem dX6_knows_124 : decode cX6_knows 124 = .ok (.iload 7, 2) := by decide +kernel
theorem dX6_knows_126 : decode cX6_knows 126 = .ok (.iload 4, 2) := by decide +kernel
theorem dX6_knows_128 : decode cX6_knows 128 = .ok (.invokevirtual 160, 3) := by decide +kernel
theorem dX6_knows_131 : decode cX6_knows 131 = .ok (.istore 8, 2) := by decide +kernel
theorem dX6_knows_133 : decode cX6_knows 133 = .ok (.iload 8, 2) := by decide +kernel
theorem dX6_knows_135 : decode cX6_knows 135 = .ok (.ifCond .le 25, 3) := by decide +kernel
theorem dX6_knows_138 : decode cX6_knows 138 = .ok (.iload 6, 2) := by decide +kernel
theorem dX6_knows_140 : decode cX6_knows 140 = .ok (.iload 8, 2) := by decide +kernel
theorem dX6_knows_142 : decode cX6_knows 142 = .ok (.aload_n 0, 1) := by decide +kernel
theorem dX6_knows_143 : decode cX6_knows 143 = .ok (.iload_n 1, 1) := by decide +kernel
theorem dX6_knows_144 : decode cX6_knows 144 = .ok (.iload 7, 2) := by decide +kernel
theorem dX6_knows_146 : decode cX6_knows 146 = .ok (.iload 4, 2) := by decide +kernel
theorem dX6_knows_148 : decode cX6_knows 148 = .ok (.iload 8, 2) := by decide +kernel
theorem dX6_knows_150 : decode cX6_knows 150 = .ok (.iadd, 1) := by decide +kernel
theorem dX6_knows_151 : decode cX6_knows 151 = .ok (.invokevirtual 154, 3) := by decide +kernel
theorem dX6_knows_154 : decode cX6_knows 154 = .ok (.iadd, 1) := by decide +kernel
theorem dX6_knows_155 : decode cX6_knows 155 = .ok (.invokestatic 134, 3) := by decide +kernel
theorem dX6_knows_158 : decode cX6_knows 158 = .ok (.istore 6, 2) := by decide +kernel
theorem dX6_knows_160 : decode cX6_knows 160 = .ok (.iinc 7 1, 3) := by decide +kernel
theorem dX6_knows_163 : decode cX6_knows 163 = .ok (.goto (-51), 3) := by decide +kernel
theorem dX6_knows_166 : decode cX6_knows 166 = .ok (.iload 6, 2) := by decide +kernel
theorem dX6_knows_168 : decode cX6_knows 168 = .ok (.aload_n 0, 1) := by decide +kernel
theorem dX6_knows_169 : decode cX6_knows 169 = .ok (.iload_n 1, 1) := by decide +kernel
theorem dX6_knows_170 : decode cX6_knows 170 = .ok (.iload 5, 2) := by decide +kernel
theorem dX6_knows_172 : decode cX6_knows 172 = .ok (.iload 4, 2) := by decide +kernel
theorem dX6_knows_174 : decode cX6_knows 174 = .ok (.invokevirtual 154, 3) := by decide +kernel
theorem dX6_knows_177 : decode cX6_knows 177 = .ok (.if_icmp .lt 6, 3) := by decide +kernel
theorem dX6_knows_180 : decode cX6_knows 180 = .ok (.goto 28, 3) := by decide +kernel
theorem dX6_knows_183 : decode cX6_knows 183 = .ok (.aload_n 0, 1) := by decide +kernel
theorem dX6_knows_184 : decode cX6_knows 184 = .ok (.getfield 38, 3) := by decide +kernel
theorem dX6_knows_187 : decode cX6_knows 187 = .ok (.bipush 48, 2) := by decide +kernel
theorem dX6_knows_189 : decode cX6_knows 189 = .ok (.iload_n 1, 1) := by decide +kernel
theorem dX6_knows_190 : decode cX6_knows 190 = .ok (.imul, 1) := by decide +kernel
theorem dX6_knows_191 : decode cX6_knows 191 = .ok (.iload 5, 2) := by decide +kernel
theorem dX6_knows_193 : decode cX6_knows 193 = .ok (.iadd, 1) := by decide +kernel
theorem dX6_knows_194 : decode cX6_knows 194 = .ok (.bipush 32, 2) := by decide +kernel
theorem dX6_knows_196 : decode cX6_knows 196 = .ok (.imul, 1) := by decide +kernel
theorem dX6_knows_197 : decode cX6_knows 197 = .ok (.iload 4, 2) := by decide +kernel
theorem dX6_knows_199 : decode cX6_knows 199 = .ok (.bipush 32, 2) := by decide +kernel
theorem dX6_knows_201 : decode cX6_knows 201 = .ok (.irem, 1) := by decide +kernel
theorem dX6_knows_202 : decode cX6_knows 202 = .ok (.iadd, 1) := by decide +kernel
theorem dX6_knows_203 : decode cX6_knows 203 = .ok (.iload 6, 2) := by decide +kernel
theorem dX6_knows_205 : decode cX6_knows 205 = .ok (.iastore, 1) := by decide +kernel
theorem dX6_knows_206 : decode cX6_knows 206 = .ok (.iconst 1, 1) := by decide +kernel
theorem dX6_knows_207 : decode cX6_knows 207 = .ok (.istore_n 3, 1) := by decide +kernel
theorem dX6_knows_208 : decode cX6_knows 208 = .ok (.iinc 5 1, 3) := by decide +kernel
theorem dX6_knows_211 : decode cX6_knows 211 = .ok (.goto (-141), 3) := by decide +kernel
theorem dX6_knows_214 : decode cX6_knows 214 = .ok (.iinc 4 (-1), 3) := by decide +kernel
theorem dX6_knows_217 : decode cX6_knows 217 = .ok (.goto (-155), 3) := by decide +kernel
theorem dX6_knows_220 : decode cX6_knows 220 = .ok (.goto (-168), 3) := by decide +kernel
theorem dX6_knows_223 : decode cX6_knows 223 = .ok (.return_, 1) := by decide +kernel
theorem dX6_takesPosts_0 : decode cX6_takesPosts 0 = .ok (.aload_n 0, 1) := by decide +kernel
theorem dX6_takesPosts_1 : decode cX6_takesPosts 1 = .ok (.iload_n 2, 1) := by decide +kernel
theorem dX6_takesPosts_2 : decode cX6_takesPosts 2 = .ok (.invokevirtual 163, 3) := by decide +kernel
theorem dX6_takesPosts_5 : decode cX6_takesPosts 5 = .ok (.ldc 153, 2) := by decide +kernel
theorem dX6_takesPosts_7 : decode cX6_takesPosts 7 = .ok (.istore 4, 2) := by decide +kernel
theorem dX6_takesPosts_9 : decode cX6_takesPosts 9 = .ok (.iconst 0, 1) := by decide +kernel
theorem dX6_takesPosts_10 : decode cX6_takesPosts 10 = .ok (.istore 5, 2) := by decide +kernel
theorem dX6_takesPosts_12 : decode cX6_takesPosts 12 = .ok (.iload 5, 2) := by decide +kernel
theorem dX6_takesPosts_14 : decode cX6_takesPosts 14 = .ok (.bipush 32, 2) := by decide +kernel
theorem dX6_takesPosts_16 : decode cX6_takesPosts 16 = .ok (.if_icmp .ge 66, 3) := by decide +kernel
theorem dX6_takesPosts_19 : decode cX6_takesPosts 19 = .ok (.iconst 0, 1) := by decide +kernel
theorem dX6_takesPosts_20 : decode cX6_takesPosts 20 = .ok (.istore 6, 2) := by decide +kernel
theorem dX6_takesPosts_22 : decode cX6_takesPosts 22 = .ok (.iload 6, 2) := by decide +kernel
theorem dX6_takesPosts_24 : decode cX6_takesPosts 24 = .ok (.aload_n 0, 1) := by decide +kernel
theorem dX6_takesPosts_25 : decode cX6_takesPosts 25 = .ok (.getfield 93, 3) := by decide +kernel
theorem dX6_takesPosts_28 : decode cX6_takesPosts 28 = .ok (.if_icmp .ge 48, 3) := by decide +kernel
theorem dX6_takesPosts_31 : decode cX6_takesPosts 31 = .ok (.aload_n 0, 1) := by decide +kernel
theorem dX6_takesPosts_32 : decode cX6_takesPosts 32 = .ok (.iload_n 1, 1) := by decide +kernel
theorem dX6_takesPosts_33 : decode cX6_takesPosts 33 = .ok (.iload 6, 2) := by decide +kernel
theorem dX6_takesPosts_35 : decode cX6_takesPosts 35 = .ok (.iload_n 3, 1) := by decide +kernel
theorem dX6_takesPosts_36 : decode cX6_takesPosts 36 = .ok (.iload 5, 2) := by decide +kernel
theorem dX6_takesPosts_38 : decode cX6_takesPosts 38 = .ok (.iadd, 1) := by decide +kernel
theorem dX6_takesPosts_39 : decode cX6_takesPosts 39 = .ok (.invokevirtual 157, 3) := by decide +kernel
theorem dX6_takesPosts_42 : decode cX6_takesPosts 42 = .ok (.ifCond .eq 28, 3) := by decide +kernel
theorem dX6_takesPosts_45 : decode cX6_takesPosts 45 = .ok (.iload 4, 2) := by decide +kernel
theorem dX6_takesPosts_47 : decode cX6_takesPosts 47 = .ok (.iload 5, 2) := by decide +kernel
theorem dX6_takesPosts_49 : decode cX6_takesPosts 49 = .ok (.iconst 1, 1) := by decide +kernel
theorem dX6_takesPosts_50 : decode cX6_takesPosts 50 = .ok (.iadd, 1) := by decide +kernel
theorem dX6_takesPosts_51 : decode cX6_takesPosts 51 = .ok (.aload_n 0, 1) := by decide +kernel
theorem dX6_takesPosts_52 : decode cX6_takesPosts 52 = .ok (.iload_n 2, 1) := by decide +kernel
theorem dX6_takesPosts_53 : decode cX6_takesPosts 53 = .ok (.iload 6, 2) := by decide +kernel
theorem dX6_takesPosts_55 : decode cX6_takesPosts 55 = .ok (.iload_n 3, 1) := by decide +kernel
theorem dX6_takesPosts_56 : decode cX6_takesPosts 56 = .ok (.iload 5, 2) := by decide +kernel
theorem dX6_takesPosts_58 : decode cX6_takesPosts 58 = .ok (.iadd, 1) := by decide +kernel
theorem dX6_takesPosts_59 : decode cX6_takesPosts 59 = .ok (.iconst 1, 1) := by decide +kernel
theorem dX6_takesPosts_60 : decode cX6_takesPosts 60 = .ok (.iadd, 1) := by decide +kernel
theorem dX6_takesPosts_61 : decode cX6_takesPosts 61 = .ok (.invokevirtual 154, 3) := by decide +kernel
theorem dX6_takesPosts_64 : decode cX6_takesPosts 64 = .ok (.iadd, 1) := by decide +kernel
theorem dX6_takesPosts_65 : decode cX6_takesPosts 65 = .ok (.invokestatic 134, 3) := by decide +kernel
theorem dX6_takesPosts_68 : decode cX6_takesPosts 68 = .ok (.istore 4, 2) := by decide +kernel
theorem dX6_takesPosts_70 : decode cX6_takesPosts 70 = .ok (.iinc 6 1, 3) := by decide +kernel
theorem dX6_takesPosts_73 : decode cX6_takesPosts 73 = .ok (.goto (-51), 3) := by decide +kernel
theorem dX6_takesPosts_76 : decode cX6_takesPosts 76 = .ok (.iinc 5 1, 3) := by decide +kernel
theorem dX6_takesPosts_79 : decode cX6_takesPosts 79 = .ok (.goto (-67), 3) := by decide +kernel
theorem dX6_takesPosts_82 : decode cX6_takesPosts 82 = .ok (.iload 4, 2) := by decide +kernel
theorem dX6_takesPosts_84 : decode cX6_takesPosts 84 = .ok (.ireturn, 1) := by decide +kernel
theorem dX6_earliest_0 : decode cX6_earliest 0 = .ok (.aload_n 0, 1) := by decide +kernel
theorem dX6_earliest_1 : decode cX6_earliest 1 = .ok (.iconst 0, 1) := by decide +kernel
theorem dX6_earliest_2 : decode cX6_earliest 2 = .ok (.putfield 89, 3) := by decide +kernel
theorem dX6_earliest_5 : decode cX6_earliest 5 = .ok (.aload_n 0, 1) := by decide +kernel
theorem dX6_earliest_6 : decode cX6_earliest 6 = .ok (.aload_n 0, 1) := by decide +kernel
theorem dX6_earliest_7 : decode cX6_earliest 7 = .ok (.iload_n 1, 1) := by decide +kernel
theorem dX6_earliest_8 : decode cX6_earliest 8 = .ok (.invokevirtual 150, 3) := by decide +kernel
theorem dX6_earliest_11 : decode cX6_earliest 11 = .ok (.ifCond .ne 11, 3) := by decide +kernel
theorem dX6_earliest_14 : decode cX6_earliest 14 = .ok (.aload_n 0, 1) := by decide +kernel
theorem dX6_earliest_15 : decode cX6_earliest 15 = .ok (.iload_n 2, 1) := by decide +kernel
theorem dX6_earliest_16 : decode cX6_earliest 16 = .ok (.invokevirtual 150, 3) := by decide +kernel
theorem dX6_earliest_19 : decode cX6_earliest 19 = .ok (.ifCond .eq 7, 3) := by decide +kernel
theorem dX6_earliest_22 : decode cX6_earliest 22 = .ok (.iconst 1, 1) := by decide +kernel
theorem dX6_earliest_23 : decode cX6_earliest 23 = .ok (.goto 4, 3) := by decide +kernel
theorem dX6_earliest_26 : decode cX6_earliest 26 = .ok (.iconst 0, 1) := by decide +kernel
theorem dX6_earliest_27 : decode cX6_earliest 27 = .ok (.iconst 1, 1) := by decide +kernel
theorem dX6_earliest_28 : decode cX6_earliest 28 = .ok (.invokevirtual 107, 3) := by decide +kernel
theorem dX6_earliest_31 : decode cX6_earliest 31 = .ok (.ifCond .ne 15, 3) := by decide +kernel
theorem dX6_earliest_34 : decode cX6_earliest 34 = .ok (.aload_n 0, 1) := by decide +kernel
theorem dX6_earliest_35 : decode cX6_earliest 35 = .ok (.iload_n 3, 1) := by decide +kernel
theorem dX6_earliest_36 : decode cX6_earliest 36 = .ok (.invokestatic 121, 3) := by decide +kernel
theorem dX6_earliest_39 : decode cX6_earliest 39 = .ok (.iconst 2, 1) := by decide +kernel
theorem dX6_earliest_40 : decode cX6_earliest 40 = .ok (.invokevirtual 107, 3) := by decide +kernel
theorem dX6_earliest_43 : decode cX6_earliest 43 = .ok (.ifCond .eq 5, 3) := by decide +kernel
theorem dX6_earliest_46 : decode cX6_earliest 46 = .ok (.iconst 0, 1) := by decide +kernel
theorem dX6_earliest_47 : decode cX6_earliest 47 = .ok (.ireturn, 1) := by decide +kernel
theorem dX6_earliest_48 : decode cX6_earliest 48 = .ok (.iload_n 1, 1) := by decide +kernel
theorem dX6_earliest_49 : decode cX6_earliest 49 = .ok (.iload_n 2, 1) := by decide +kernel
theorem dX6_earliest_50 : decode cX6_earliest 50 = .ok (.if_icmp .ne 5, 3) := by decide +kernel
theorem dX6_earliest_53 : decode cX6_earliest 53 = .ok (.iload_n 3, 1) := by decide +kernel
theorem dX6_earliest_54 : decode cX6_earliest 54 = .ok (.ireturn, 1) := by decide +kernel
theorem dX6_earliest_55 : decode cX6_earliest 55 = .ok (.aload_n 0, 1) := by decide +kernel
theorem dX6_earliest_56 : decode cX6_earliest 56 = .ok (.iload_n 1, 1) := by decide +kernel
theorem dX6_earliest_57 : decode cX6_earliest 57 = .ok (.iload_n 2, 1) := by decide +kernel
theorem dX6_earliest_58 : decode cX6_earliest 58 = .ok (.iload_n 3, 1) := by decide +kernel
theorem dX6_earliest_59 : decode cX6_earliest 59 = .ok (.invokevirtual 167, 3) := by decide +kernel
theorem dX6_earliest_62 : decode cX6_earliest 62 = .ok (.istore 4, 2) := by decide +kernel
theorem dX6_earliest_64 : decode cX6_earliest 64 = .ok (.iload 4, 2) := by decide +kernel
theorem dX6_earliest_66 : decode cX6_earliest 66 = .ok (.ldc 153, 2) := by decide +kernel
theorem dX6_earliest_68 : decode cX6_earliest 68 = .ok (.if_icmp .lt 7, 3) := by decide +kernel
theorem dX6_earliest_71 : decode cX6_earliest 71 = .ok (.iconst (-1), 1) := by decide +kernel
theorem dX6_earliest_72 : decode cX6_earliest 72 = .ok (.goto 7, 3) := by decide +kernel
theorem dX6_earliest_75 : decode cX6_earliest 75 = .ok (.iload_n 3, 1) := by decide +kernel
theorem dX6_earliest_76 : decode cX6_earliest 76 = .ok (.iload 4, 2) := by decide +kernel
theorem dX6_earliest_78 : decode cX6_earliest 78 = .ok (.iadd, 1) := by decide +kernel
theorem dX6_earliest_79 : decode cX6_earliest 79 = .ok (.ireturn, 1) := by decide +kernel
theorem dX6_late_0 : decode cX6_late 0 = .ok (.aload_n 0, 1) := by decide +kernel
theorem dX6_late_1 : decode cX6_late 1 = .ok (.iconst 0, 1) := by decide +kernel
theorem dX6_late_2 : decode cX6_late 2 = .ok (.putfield 89, 3) := by decide +kernel
theorem dX6_late_5 : decode cX6_late 5 = .ok (.aload_n 0, 1) := by decide +kernel
theorem dX6_late_6 : decode cX6_late 6 = .ok (.aload_n 0, 1) := by decide +kernel
theorem dX6_late_7 : decode cX6_late 7 = .ok (.iload_n 1, 1) := by decide +kernel
theorem dX6_late_8 : decode cX6_late 8 = .ok (.invokevirtual 150, 3) := by decide +kernel
theorem dX6_late_11 : decode cX6_late 11 = .ok (.ifCond .ne 11, 3) := by decide +kernel
theorem dX6_late_14 : decode cX6_late 14 = .ok (.aload_n 0, 1) := by decide +kernel
theorem dX6_late_15 : decode cX6_late 15 = .ok (.iload_n 2, 1) := by decide +kernel
theorem dX6_late_16 : decode cX6_late 16 = .ok (.invokevirtual 150, 3) := by decide +kernel
theorem dX6_late_19 : decode cX6_late 19 = .ok (.ifCond .eq 7, 3) := by decide +kernel
theorem dX6_late_22 : decode cX6_late 22 = .ok (.iconst 1, 1) := by decide +kernel
theorem dX6_late_23 : decode cX6_late 23 = .ok (.goto 4, 3) := by decide +kernel
theorem dX6_late_26 : decode cX6_late 26 = .ok (.iconst 0, 1) := by decide +kernel
theorem dX6_late_27 : decode cX6_late 27 = .ok (.iconst 1, 1) := by decide +kernel
theorem dX6_late_28 : decode cX6_late 28 = .ok (.invokevirtual 107, 3) := by decide +kernel
theorem dX6_late_31 : decode cX6_late 31 = .ok (.ifCond .ne 8, 3) := by decide +kernel
theorem dX6_late_34 : decode cX6_late 34 = .ok (.iload_n 1, 1) := by decide +kernel
theorem dX6_late_35 : decode cX6_late 35 = .ok (.iload_n 2, 1) := by decide +kernel
theorem dX6_late_36 : decode cX6_late 36 = .ok (.if_icmp .ne 5, 3) := by decide +kernel
theorem dX6_late_39 : decode cX6_late 39 = .ok (.iconst 0, 1) := by decide +kernel
theorem dX6_late_40 : decode cX6_late 40 = .ok (.ireturn, 1) := by decide +kernel
theorem dX6_late_41 : decode cX6_late 41 = .ok (.iconst (-1), 1) := by decide +kernel
theorem dX6_late_42 : decode cX6_late 42 = .ok (.istore 4, 2) := by decide +kernel
theorem dX6_late_44 : decode cX6_late 44 = .ok (.iconst 0, 1) := by decide +kernel
theorem dX6_late_45 : decode cX6_late 45 = .ok (.istore 5, 2) := by decide +kernel
theorem dX6_late_47 : decode cX6_late 47 = .ok (.iload 5, 2) := by decide +kernel
theorem dX6_late_49 : decode cX6_late 49 = .ok (.bipush 32, 2) := by decide +kernel
theorem dX6_late_51 : decode cX6_late 51 = .ok (.if_icmp .ge 61, 3) := by decide +kernel
theorem dX6_late_54 : decode cX6_late 54 = .ok (.aload_n 0, 1) := by decide +kernel
theorem dX6_late_55 : decode cX6_late 55 = .ok (.iload_n 1, 1) := by decide +kernel
theorem dX6_late_56 : decode cX6_late 56 = .ok (.iload_n 2, 1) := by decide +kernel
theorem dX6_late_57 : decode cX6_late 57 = .ok (.iload 5, 2) := by decide +kernel
theorem dX6_late_59 : decode cX6_late 59 = .ok (.invokevirtual 167, 3) := by decide +kernel
theorem dX6_late_62 : decode cX6_late 62 = .ok (.istore 6, 2) := by decide +kernel
theorem dX6_late_64 : decode cX6_late 64 = .ok (.iload 6, 2) := by decide +kernel
theorem dX6_late_66 : decode cX6_late 66 = .ok (.ldc 153, 2) := by decide +kernel
theorem dX6_late_68 : decode cX6_late 68 = .ok (.if_icmp .lt 5, 3) := by decide +kernel
theorem dX6_late_71 : decode cX6_late 71 = .ok (.iconst (-1), 1) := by decide +kernel
theorem dX6_late_72 : decode cX6_late 72 = .ok (.ireturn, 1) := by decide +kernel
theorem dX6_late_73 : decode cX6_late 73 = .ok (.iload 4, 2) := by decide +kernel
theorem dX6_late_75 : decode cX6_late 75 = .ok (.ifCond .ge 8, 3) := by decide +kernel
theorem dX6_late_78 : decode cX6_late 78 = .ok (.iload 6, 2) := by decide +kernel
theorem dX6_late_80 : decode cX6_late 80 = .ok (.goto 24, 3) := by decide +kernel
theorem dX6_late_83 : decode cX6_late 83 = .ok (.iload_n 3, 1) := by decide +kernel
theorem dX6_late_84 : decode cX6_late 84 = .ok (.ifCond .eq 13, 3) := by decide +kernel
theorem dX6_late_87 : decode cX6_late 87 = .ok (.iload 4, 2) := by decide +kernel
theorem dX6_late_89 : decode cX6_late 89 = .ok (.iload 6, 2) := by decide +kernel
theorem dX6_late_91 : decode cX6_late 91 = .ok (.invokestatic 170, 3) := by decide +kernel
theorem dX6_late_94 : decode cX6_late 94 = .ok (.goto 10, 3) := by decide +kernel
theorem dX6_late_97 : decode cX6_late 97 = .ok (.iload 4, 2) := by decide +kernel
theorem dX6_late_99 : decode cX6_late 99 = .ok (.iload 6, 2) := by decide +kernel
theorem dX6_late_101 : decode cX6_late 101 = .ok (.invokestatic 134, 3) := by decide +kernel
theorem dX6_late_104 : decode cX6_late 104 = .ok (.istore 4, 2) := by decide +kernel
theorem dX6_late_106 : decode cX6_late 106 = .ok (.iinc 5 1, 3) := by decide +kernel
theorem dX6_late_109 : decode cX6_late 109 = .ok (.goto (-62), 3) := by decide +kernel
theorem dX6_late_112 : decode cX6_late 112 = .ok (.iload 4, 2) := by decide +kernel
theorem dX6_late_114 : decode cX6_late 114 = .ok (.ireturn, 1) := by decide +kernel
theorem dX6_meets_0 : decode cX6_meets 0 = .ok (.aload_n 0, 1) := by decide +kernel
theorem dX6_meets_1 : decode cX6_meets 1 = .ok (.iconst 0, 1) := by decide +kernel
theorem dX6_meets_2 : decode cX6_meets 2 = .ok (.putfield 89, 3) := by decide +kernel
theorem dX6_meets_5 : decode cX6_meets 5 = .ok (.aload_n 0, 1) := by decide +kernel
theorem dX6_meets_6 : decode cX6_meets 6 = .ok (.aload_n 0, 1) := by decide +kernel
theorem dX6_meets_7 : decode cX6_meets 7 = .ok (.iload_n 1, 1) := by decide +kernel
theorem dX6_meets_8 : decode cX6_meets 8 = .ok (.invokevirtual 150, 3) := by decide +kernel
theorem dX6_meets_11 : decode cX6_meets 11 = .ok (.iconst 1, 1) := by decide +kernel
theorem dX6_meets_12 : decode cX6_meets 12 = .ok (.invokevirtual 107, 3) := by decide +kernel
theorem dX6_meets_15 : decode cX6_meets 15 = .ok (.ifCond .eq 5, 3) := by decide +kernel
theorem dX6_meets_18 : decode cX6_meets 18 = .ok (.iconst 0, 1) := by decide +kernel
theorem dX6_meets_19 : decode cX6_meets 19 = .ok (.ireturn, 1) := by decide +kernel
theorem dX6_meets_20 : decode cX6_meets 20 = .ok (.iconst 0, 1) := by decide +kernel
theorem dX6_meets_21 : decode cX6_meets 21 = .ok (.istore_n 2, 1) := by decide +kernel
theorem dX6_meets_22 : decode cX6_meets 22 = .ok (.iconst 0, 1) := by decide +kernel
theorem dX6_meets_23 : decode cX6_meets 23 = .ok (.istore_n 3, 1) := by decide +kernel
theorem dX6_meets_24 : decode cX6_meets 24 = .ok (.iload_n 3, 1) := by decide +kernel
theorem dX6_meets_25 : decode cX6_meets 25 = .ok (.bipush 32, 2) := by decide +kernel
theorem dX6_meets_27 : decode cX6_meets 27 = .ok (.if_icmp .ge 66, 3) := by decide +kernel
theorem dX6_meets_30 : decode cX6_meets 30 = .ok (.iconst 0, 1) := by decide +kernel
theorem dX6_meets_31 : decode cX6_meets 31 = .ok (.istore 4, 2) := by decide +kernel
theorem dX6_meets_33 : decode cX6_meets 33 = .ok (.iconst 0, 1) := by decide +kernel
theorem dX6_meets_34 : decode cX6_meets 34 = .ok (.istore 5, 2) := by decide +kernel
theorem dX6_meets_36 : decode cX6_meets 36 = .ok (.iload 5, 2) := by decide +kernel
theorem dX6_meets_38 : decode cX6_meets 38 = .ok (.aload_n 0, 1) := by decide +kernel
theorem dX6_meets_39 : decode cX6_meets 39 = .ok (.getfield 93, 3) := by decide +kernel
theorem dX6_meets_42 : decode cX6_meets 42 = .ok (.if_icmp .ge 32, 3) := by decide +kernel
theorem dX6_meets_45 : decode cX6_meets 45 = .ok (.iload 4, 2) := by decide +kernel
theorem dX6_meets_47 : decode cX6_meets 47 = .ok (.ifCond .ne 14, 3) := by decide +kernel
theorem dX6_meets_50 : decode cX6_meets 50 = .ok (.aload_n 0, 1) := by decide +kernel
theorem dX6_meets_51 : decode cX6_meets 51 = .ok (.iload_n 1, 1) := by decide +kernel
theorem dX6_meets_52 : decode cX6_meets 52 = .ok (.iload 5, 2) := by decide +kernel
theorem dX6_meets_54 : decode cX6_meets 54 = .ok (.iload_n 3, 1) := by decide +kernel
theorem dX6_meets_55 : decode cX6_meets 55 = .ok (.invokevirtual 144, 3) := by decide +kernel
theorem dX6_meets_58 : decode cX6_meets 58 = .ok (.ifCond .eq 7, 3) := by decide +kernel
theorem dX6_meets_61 : decode cX6_meets 61 = .ok (.iconst 1, 1) := by decide +kernel
theorem dX6_meets_62 : decode cX6_meets 62 = .ok (.goto 4, 3) := by decide +kernel
theorem dX6_meets_65 : decode cX6_meets 65 = .ok (.iconst 0, 1) := by decide +kernel
theorem dX6_meets_66 : decode cX6_meets 66 = .ok (.istore 4, 2) := by decide +kernel
theorem dX6_meets_68 : decode cX6_meets 68 = .ok (.iinc 5 1, 3) := by decide +kernel
theorem dX6_meets_71 : decode cX6_meets 71 = .ok (.goto (-35), 3) := by decide +kernel
theorem dX6_meets_74 : decode cX6_meets 74 = .ok (.iload_n 2, 1) := by decide +kernel
theorem dX6_meets_75 : decode cX6_meets 75 = .ok (.iload 4, 2) := by decide +kernel
theorem dX6_meets_77 : decode cX6_meets 77 = .ok (.ifCond .eq 7, 3) := by decide +kernel
theorem dX6_meets_80 : decode cX6_meets 80 = .ok (.iconst 1, 1) := by decide +kernel
theorem dX6_meets_81 : decode cX6_meets 81 = .ok (.goto 4, 3) := by decide +kernel
theorem dX6_meets_84 : decode cX6_meets 84 = .ok (.iconst 0, 1) := by decide +kernel
theorem dX6_meets_85 : decode cX6_meets 85 = .ok (.iadd, 1) := by decide +kernel
theorem dX6_meets_86 : decode cX6_meets 86 = .ok (.istore_n 2, 1) := by decide +kernel
theorem dX6_meets_87 : decode cX6_meets 87 = .ok (.iinc 3 1, 3) := by decide +kernel
theorem dX6_meets_90 : decode cX6_meets 90 = .ok (.goto (-66), 3) := by decide +kernel
theorem dX6_meets_93 : decode cX6_meets 93 = .ok (.iload_n 2, 1) := by decide +kernel
theorem dX6_meets_94 : decode cX6_meets 94 = .ok (.ireturn, 1) := by decide +kernel
theorem dX6_part_0 : decode cX6_part 0 = .ok (.aload_n 0, 1) := by decide +kernel
theorem dX6_part_1 : decode cX6_part 1 = .ok (.iconst 0, 1) := by decide +kernel
theorem dX6_part_2 : decode cX6_part 2 = .ok (.putfield 89, 3) := by decide +kernel
theorem dX6_part_5 : decode cX6_part 5 = .ok (.aload_n 0, 1) := by decide +kernel
theorem dX6_part_6 : decode cX6_part 6 = .ok (.aload_n 0, 1) := by decide +kernel
theorem dX6_part_7 : decode cX6_part 7 = .ok (.iload_n 1, 1) := by decide +kernel
theorem dX6_part_8 : decode cX6_part 8 = .ok (.invokevirtual 150, 3) := by decide +kernel
theorem dX6_part_11 : decode cX6_part 11 = .ok (.ifCond .ne 11, 3) := by decide +kernel
theorem dX6_part_14 : decode cX6_part 14 = .ok (.aload_n 0, 1) := by decide +kernel
theorem dX6_part_15 : decode cX6_part 15 = .ok (.iload_n 2, 1) := by decide +kernel
theorem dX6_part_16 : decode cX6_part 16 = .ok (.invokevirtual 150, 3) := by decide +kernel
theorem dX6_part_19 : decode cX6_part 19 = .ok (.ifCond .eq 7, 3) := by decide +kernel
theorem dX6_part_22 : decode cX6_part 22 = .ok (.iconst 1, 1) := by decide +kernel
theorem dX6_part_23 : decode cX6_part 23 = .ok (.goto 4, 3) := by decide +kernel
theorem dX6_part_26 : decode cX6_part 26 = .ok (.iconst 0, 1) := by decide +kernel
theorem dX6_part_27 : decode cX6_part 27 = .ok (.iconst 1, 1) := by decide +kernel
theorem dX6_part_28 : decode cX6_part 28 = .ok (.invokevirtual 107, 3) := by decide +kernel
theorem dX6_part_31 : decode cX6_part 31 = .ok (.ifCond .ne 15, 3) := by decide +kernel
theorem dX6_part_34 : decode cX6_part 34 = .ok (.aload_n 0, 1) := by decide +kernel
theorem dX6_part_35 : decode cX6_part 35 = .ok (.iload_n 3, 1) := by decide +kernel
theorem dX6_part_36 : decode cX6_part 36 = .ok (.invokestatic 121, 3) := by decide +kernel
theorem dX6_part_39 : decode cX6_part 39 = .ok (.iconst 2, 1) := by decide +kernel
theorem dX6_part_40 : decode cX6_part 40 = .ok (.invokevirtual 107, 3) := by decide +kernel
theorem dX6_part_43 : decode cX6_part 43 = .ok (.ifCond .eq 5, 3) := by decide +kernel
theorem dX6_part_46 : decode cX6_part 46 = .ok (.iconst 0, 1) := by decide +kernel
theorem dX6_part_47 : decode cX6_part 47 = .ok (.ireturn, 1) := by decide +kernel
theorem dX6_part_48 : decode cX6_part 48 = .ok (.iload_n 1, 1) := by decide +kernel
theorem dX6_part_49 : decode cX6_part 49 = .ok (.iload_n 2, 1) := by decide +kernel
theorem dX6_part_50 : decode cX6_part 50 = .ok (.if_icmp .ne 7, 3) := by decide +kernel
theorem dX6_part_53 : decode cX6_part 53 = .ok (.iconst (-1), 1) := by decide +kernel
theorem dX6_part_54 : decode cX6_part 54 = .ok (.goto 10, 3) := by decide +kernel
theorem dX6_part_57 : decode cX6_part 57 = .ok (.aload_n 0, 1) := by decide +kernel
theorem dX6_part_58 : decode cX6_part 58 = .ok (.iload_n 1, 1) := by decide +kernel
theorem dX6_part_59 : decode cX6_part 59 = .ok (.iload_n 2, 1) := by decide +kernel
theorem dX6_part_60 : decode cX6_part 60 = .ok (.iload_n 3, 1) := by decide +kernel
theorem dX6_part_61 : decode cX6_part 61 = .ok (.invokevirtual 173, 3) := by decide +kernel
theorem dX6_part_64 : decode cX6_part 64 = .ok (.ireturn, 1) := by decide +kernel
theorem dX6_flows_0 : decode cX6_flows 0 = .ok (.iconst 0, 1) := by decide +kernel
theorem dX6_flows_1 : decode cX6_flows 1 = .ok (.istore 4, 2) := by decide +kernel
theorem dX6_flows_3 : decode cX6_flows 3 = .ok (.iload 4, 2) := by decide +kernel
theorem dX6_flows_5 : decode cX6_flows 5 = .ok (.sipush 9604, 3) := by decide +kernel
theorem dX6_flows_8 : decode cX6_flows 8 = .ok (.if_icmp .ge 17, 3) := by decide +kernel
theorem dX6_flows_11 : decode cX6_flows 11 = .ok (.aload_n 0, 1) := by decide +kernel
theorem dX6_flows_12 : decode cX6_flows 12 = .ok (.getfield 44, 3) := by decide +kernel
theorem dX6_flows_15 : decode cX6_flows 15 = .ok (.iload 4, 2) := by decide +kernel
theorem dX6_flows_17 : decode cX6_flows 17 = .ok (.iconst 0, 1) := by decide +kernel
theorem dX6_flows_18 : decode cX6_flows 18 = .ok (.bastore, 1) := by decide +kernel
theorem dX6_flows_19 : decode cX6_flows 19 = .ok (.iinc 4 1, 3) := by decide +kernel
theorem dX6_flows_22 : decode cX6_flows 22 = .ok (.goto (-19), 3) := by decide +kernel
theorem dX6_flows_25 : decode cX6_flows 25 = .ok (.iconst 0, 1) := by decide +kernel
theorem dX6_flows_26 : decode cX6_flows 26 = .ok (.istore 4, 2) := by decide +kernel
theorem dX6_flows_28 : decode cX6_flows 28 = .ok (.iload 4, 2) := by decide +kernel
theorem dX6_flows_30 : decode cX6_flows 30 = .ok (.aload_n 0, 1) := by decide +kernel
theorem dX6_flows_31 : decode cX6_flows 31 = .ok (.getfield 93, 3) := by decide +kernel
theorem dX6_flows_34 : decode cX6_flows 34 = .ok (.if_icmp .ge 120, 3) := by decide +kernel
theorem dX6_flows_37 : decode cX6_flows 37 = .ok (.aload_n 0, 1) := by decide +kernel
theorem dX6_flows_38 : decode cX6_flows 38 = .ok (.getfield 44, 3) := by decide +kernel
theorem dX6_flows_41 : decode cX6_flows 41 = .ok (.bipush 98, 2) := by decide +kernel
theorem dX6_flows_43 : decode cX6_flows 43 = .ok (.iload 4, 2) := by decide +kernel
theorem dX6_flows_45 : decode cX6_flows 45 = .ok (.imul, 1) := by decide +kernel
theorem dX6_flows_46 : decode cX6_flows 46 = .ok (.iload 4, 2) := by decide +kernel
theorem dX6_flows_48 : decode cX6_flows 48 = .ok (.iadd, 1) := by decide +kernel
theorem dX6_flows_49 : decode cX6_flows 49 = .ok (.bipush 48, 2) := by decide +kernel
theorem dX6_flows_51 : decode cX6_flows 51 = .ok (.iadd, 1) := by decide +kernel
theorem dX6_flows_52 : decode cX6_flows 52 = .ok (.iconst 1, 1) := by decide +kernel
theorem dX6_flows_53 : decode cX6_flows 53 = .ok (.bastore, 1) := by decide +kernel
theorem dX6_flows_54 : decode cX6_flows 54 = .ok (.aload_n 0, 1) := by decide +kernel
theorem dX6_flows_55 : decode cX6_flows 55 = .ok (.getfield 44, 3) := by decide +kernel
theorem dX6_flows_58 : decode cX6_flows 58 = .ok (.sipush 9408, 3) := by decide +kernel
theorem dX6_flows_61 : decode cX6_flows 61 = .ok (.iload 4, 2) := by decide +kernel
theorem dX6_flows_63 : decode cX6_flows 63 = .ok (.iadd, 1) := by decide +kernel
theorem dX6_flows_64 : decode cX6_flows 64 = .ok (.aload_n 0, 1) := by decide +kernel
theorem dX6_flows_65 : decode cX6_flows 65 = .ok (.iload_n 1, 1) := by decide +kernel
theorem dX6_flows_66 : decode cX6_flows 66 = .ok (.iload 4, 2) := by decide +kernel
theorem dX6_flows_68 : decode cX6_flows 68 = .ok (.iload_n 3, 1) := by decide +kernel
theorem dX6_flows_69 : decode cX6_flows 69 = .ok (.invokevirtual 144, 3) := by decide +kernel
theorem dX6_flows_72 : decode cX6_flows 72 = .ok (.bastore, 1) := by decide +kernel
theorem dX6_flows_73 : decode cX6_flows 73 = .ok (.aload_n 0, 1) := by decide +kernel
theorem dX6_flows_74 : decode cX6_flows 74 = .ok (.getfield 44, 3) := by decide +kernel
theorem dX6_flows_77 : decode cX6_flows 77 = .ok (.bipush 98, 2) := by decide +kernel
theorem dX6_flows_79 : decode cX6_flows 79 = .ok (.iload 4, 2) := by decide +kernel
theorem dX6_flows_81 : decode cX6_flows 81 = .ok (.bipush 48, 2) := by decide +kernel
theorem dX6_flows_83 : decode cX6_flows 83 = .ok (.iadd, 1) := by decide +kernel
theorem dX6_flows_84 : decode cX6_flows 84 = .ok (.imul, 1) := by decide +kernel
theorem dX6_flows_85 : decode cX6_flows 85 = .ok (.bipush 97, 2) := by decide +kernel
theorem dX6_flows_87 : decode cX6_flows 87 = .ok (.iadd, 1) := by decide +kernel
theorem dX6_flows_88 : decode cX6_flows 88 = .ok (.aload_n 0, 1) := by decide +kernel
theorem dX6_flows_89 : decode cX6_flows 89 = .ok (.iload_n 2, 1) := by decide +kernel
theorem dX6_flows_90 : decode cX6_flows 90 = .ok (.iload 4, 2) := by decide +kernel
theorem dX6_flows_92 : decode cX6_flows 92 = .ok (.iload_n 3, 1) := by decide +kernel
theorem dX6_flows_93 : decode cX6_flows 93 = .ok (.invokevirtual 144, 3) := by decide +kernel
theorem dX6_flows_96 : decode cX6_flows 96 = .ok (.bastore, 1) := by decide +kernel
theorem dX6_flows_97 : decode cX6_flows 97 = .ok (.iconst 0, 1) := by decide +kernel
theorem dX6_flows_98 : decode cX6_flows 98 = .ok (.istore 5, 2) := by decide +kernel
theorem dX6_flows_100 : decode cX6_flows 100 = .ok (.iload 5, 2) := by decide +kernel
theorem dX6_flows_102 : decode cX6_flows 102 = .ok (.aload_n 0, 1) := by decide +kernel
theorem dX6_flows_103 : decode cX6_flows 103 = .ok (.getfield 93, 3) := by decide +kernel
theorem dX6_flows_106 : decode cX6_flows 106 = .ok (.if_icmp .ge 42, 3) := by decide +kernel
theorem dX6_flows_109 : decode cX6_flows 109 = .ok (.aload_n 0, 1) := by decide +kernel
theorem dX6_flows_110 : decode cX6_flows 110 = .ok (.getfield 44, 3) := by decide +kernel
theorem dX6_flows_113 : decode cX6_flows 113 = .ok (.bipush 98, 2) := by decide +kernel
theorem dX6_flows_115 : decode cX6_flows 115 = .ok (.iload 4, 2) := by decide +kernel
theorem dX6_flows_117 : decode cX6_flows 117 = .ok (.bipush 48, 2) := by decide +kernel
theorem dX6_flows_119 : decode cX6_flows 119 = .ok (.iadd, 1) := by decide +kernel
theorem dX6_flows_120 : decode cX6_flows 120 = .ok (.imul, 1) := by decide +kernel
theorem dX6_flows_121 : decode cX6_flows 121 = .ok (.iload 5, 2) := by decide +kernel
theorem dX6_flows_123 : decode cX6_flows 123 = .ok (.iadd, 1) := by decide +kernel
theorem dX6_flows_124 : decode cX6_flows 124 = .ok (.aload_n 0, 1) := by decide +kernel
theorem dX6_flows_125 : decode cX6_flows 125 = .ok (.iload 4, 2) := by decide +kernel
theorem dX6_flows_127 : decode cX6_flows 127 = .ok (.iload 5, 2) := by decide +kernel
theorem dX6_flows_129 : decode cX6_flows 129 = .ok (.iload_n 3, 1) := by decide +kernel
theorem dX6_flows_130 : decode cX6_flows 130 = .ok (.invokevirtual 140, 3) := by decide +kernel
theorem dX6_flows_133 : decode cX6_flows 133 = .ok (.ifCond .le 7, 3) := by decide +kernel
theorem dX6_flows_136 : decode cX6_flows 136 = .ok (.iconst 1, 1) := by decide +kernel
theorem dX6_flows_137 : decode cX6_flows 137 = .ok (.goto 4, 3) := by decide +kernel
theorem dX6_flows_140 : decode cX6_flows 140 = .ok (.iconst 0, 1) := by decide +kernel
theorem dX6_flows_141 : decode cX6_flows 141 = .ok (.bastore, 1) := by decide +kernel
theorem dX6_flows_142 : decode cX6_flows 142 = .ok (.iinc 5 1, 3) := by decide +kernel
theorem dX6_flows_145 : decode cX6_flows 145 = .ok (.goto (-45), 3) := by decide +kernel
theorem dX6_flows_148 : decode cX6_flows 148 = .ok (.iinc 4 1, 3) := by decide +kernel
theorem dX6_flows_151 : decode cX6_flows 151 = .ok (.goto (-123), 3) := by decide +kernel
theorem dX6_flows_154 : decode cX6_flows 154 = .ok (.iconst 0, 1) := by decide +kernel
theorem dX6_flows_155 : decode cX6_flows 155 = .ok (.istore 4, 2) := by decide +kernel
theorem dX6_flows_157 : decode cX6_flows 157 = .ok (.aload_n 0, 1) := by decide +kernel
theorem dX6_flows_158 : decode cX6_flows 158 = .ok (.invokevirtual 176, 3) := by decide +kernel
theorem dX6_flows_161 : decode cX6_flows 161 = .ok (.ifCond .eq 70, 3) := by decide +kernel
theorem dX6_flows_164 : decode cX6_flows 164 = .ok (.bipush 97, 2) := by decide +kernel
theorem dX6_flows_166 : decode cX6_flows 166 = .ok (.istore 5, 2) := by decide +kernel
theorem dX6_flows_168 : decode cX6_flows 168 = .ok (.iload 5, 2) := by decide +kernel
theorem dX6_flows_170 : decode cX6_flows 170 = .ok (.bipush 96, 2) := by decide +kernel
theorem dX6_flows_172 : decode cX6_flows 172 = .ok (.if_icmp .eq 53, 3) := by decide +kernel
theorem dX6_flows_175 : decode cX6_flows 175 = .ok (.aload_n 0, 1) := by decide +kernel
theorem dX6_flows_176 : decode cX6_flows 176 = .ok (.getfield 44, 3) := by decide +kernel
theorem dX6_flows_179 : decode cX6_flows 179 = .ok (.bipush 98, 2) := by decide +kernel
theorem dX6_flows_181 : decode cX6_flows 181 = .ok (.aload_n 0, 1) := by decide +kernel
theorem dX6_flows_182 : decode cX6_flows 182 = .ok (.getfield 47, 3) := by decide +kernel
theorem dX6_flows_185 : decode cX6_flows 185 = .ok (.iload 5, 2) := by decide +kernel
theorem dX6_flows_187 : decode cX6_flows 187 = .ok (.iaload, 1) := by decide +kernel
theorem dX6_flows_188 : decode cX6_flows 188 = .ok (.imul, 1) := by decide +kernel
theorem dX6_flows_189 : decode cX6_flows 189 = .ok (.iload 5, 2) := by decide +kernel
theorem dX6_flows_191 : decode cX6_flows 191 = .ok (.iadd, 1) := by decide +kernel
theorem dX6_flows_192 : decode cX6_flows 192 = .ok (.iconst 0, 1) := by decide +kernel
theorem dX6_flows_193 : decode cX6_flows 193 = .ok (.bastore, 1) := by decide +kernel
theorem dX6_flows_194 : decode cX6_flows 194 = .ok (.aload_n 0, 1) := by decide +kernel
theorem dX6_flows_195 : decode cX6_flows 195 = .ok (.getfield 44, 3) := by decide +kernel
theorem dX6_flows_198 : decode cX6_flows 198 = .ok (.bipush 98, 2) := by decide +kernel
theorem dX6_flows_200 : decode cX6_flows 200 = .ok (.iload 5, 2) := by decide +kernel
theorem dX6_flows_202 : decode cX6_flows 202 = .ok (.imul, 1) := by decide +kernel
theorem dX6_flows_203 : decode cX6_flows 203 = .ok (.aload_n 0, 1) := by decide +kernel
theorem dX6_flows_204 : decode cX6_flows 204 = .ok (.getfield 47, 3) := by decide +kernel
theorem dX6_flows_207 : decode cX6_flows 207 = .ok (.iload 5, 2) := by decide +kernel
theorem dX6_flows_209 : decode cX6_flows 209 = .ok (.iaload, 1) := by decide +kernel
theorem dX6_flows_210 : decode cX6_flows 210 = .ok (.iadd, 1) := by decide +kernel
theorem dX6_flows_211 : decode cX6_flows 211 = .ok (.iconst 1, 1) := by decide +kernel
theorem dX6_flows_212 : decode cX6_flows 212 = .ok (.bastore, 1) := by decide +kernel
theorem dX6_flows_213 : decode cX6_flows 213 = .ok (.aload_n 0, 1) := by decide +kernel
theorem dX6_flows_214 : decode cX6_flows 214 = .ok (.getfield 47, 3) := by decide +kernel
theorem dX6_flows_217 : decode cX6_flows 217 = .ok (.iload 5, 2) := by decide +kernel
theorem dX6_flows_219 : decode cX6_flows 219 = .ok (.iaload, 1) := by decide +kernel
theorem dX6_flows_220 : decode cX6_flows 220 = .ok (.istore 5, 2) := by decide +kernel
theorem dX6_flows_222 : decode cX6_flows 222 = .ok (.goto (-54), 3) := by decide +kernel
theorem dX6_flows_225 : decode cX6_flows 225 = .ok (.iinc 4 1, 3) := by decide +kernel
theorem dX6_flows_228 : decode cX6_flows 228 = .ok (.goto (-71), 3) := by decide +kernel
theorem dX6_flows_231 : decode cX6_flows 231 = .ok (.iload 4, 2) := by decide +kernel
theorem dX6_flows_233 : decode cX6_flows 233 = .ok (.ireturn, 1) := by decide +kernel
theorem dX6_finds_0 : decode cX6_finds 0 = .ok (.iconst 0, 1) := by decide +kernel
theorem dX6_finds_1 : decode cX6_finds 1 = .ok (.istore_n 1, 1) := by decide +kernel
theorem dX6_finds_2 : decode cX6_finds 2 = .ok (.iload_n 1, 1) := by decide +kernel
theorem dX6_finds_3 : decode cX6_finds 3 = .ok (.bipush 98, 2) := by decide +kernel
theorem dX6_finds_5 : decode cX6_finds 5 = .ok (.if_icmp .ge 16, 3) := by decide +kernel
theorem dX6_finds_8 : decode cX6_finds 8 = .ok (.aload_n 0, 1) := by decide +kernel
theorem dX6_finds_9 : decode cX6_finds 9 = .ok (.getfield 47, 3) := by decide +kernel
theorem dX6_finds_12 : decode cX6_finds 12 = .ok (.iload_n 1, 1) := by decide +kernel
theorem dX6_finds_13 : decode cX6_finds 13 = .ok (.iconst (-1), 1) := by decide +kernel
theorem dX6_finds_14 : decode cX6_finds 14 = .ok (.iastore, 1) := by decide +kernel
theorem dX6_finds_15 : decode cX6_finds 15 = .ok (.iinc 1 1, 3) := by decide +kernel
theorem dX6_finds_18 : decode cX6_finds 18 = .ok (.goto (-16), 3) := by decide +kernel
theorem dX6_finds_21 : decode cX6_finds 21 = .ok (.aload_n 0, 1) := by decide +kernel
theorem dX6_finds_22 : decode cX6_finds 22 = .ok (.getfield 47, 3) := by decide +kernel
theorem dX6_finds_25 : decode cX6_finds 25 = .ok (.bipush 96, 2) := by decide +kernel
theorem dX6_finds_27 : decode cX6_finds 27 = .ok (.bipush 96, 2) := by decide +kernel
theorem dX6_finds_29 : decode cX6_finds 29 = .ok (.iastore, 1) := by decide +kernel
theorem dX6_finds_30 : decode cX6_finds 30 = .ok (.aload_n 0, 1) := by decide +kernel
theorem dX6_finds_31 : decode cX6_finds 31 = .ok (.getfield 50, 3) := by decide +kernel
theorem dX6_finds_34 : decode cX6_finds 34 = .ok (.iconst 0, 1) := by decide +kernel
theorem dX6_finds_35 : decode cX6_finds 35 = .ok (.bipush 96, 2) := by decide +kernel
theorem dX6_finds_37 : decode cX6_finds 37 = .ok (.iastore, 1) := by decide +kernel
theorem dX6_finds_38 : decode cX6_finds 38 = .ok (.iconst 1, 1) := by decide +kernel
theorem dX6_finds_39 : decode cX6_finds 39 = .ok (.istore_n 1, 1) := by decide +kernel
theorem dX6_finds_40 : decode cX6_finds 40 = .ok (.iconst 0, 1) := by decide +kernel
theorem dX6_finds_41 : decode cX6_finds 41 = .ok (.istore_n 2, 1) := by decide +kernel
theorem dX6_finds_42 : decode cX6_finds 42 = .ok (.iload_n 2, 1) := by decide +kernel
theorem dX6_finds_43 : decode cX6_finds 43 = .ok (.iload_n 1, 1) := by decide +kernel
theorem dX6_finds_44 : decode cX6_finds 44 = .ok (.if_icmp .ge 86, 3) := by decide +kernel
theorem dX6_finds_47 : decode cX6_finds 47 = .ok (.aload_n 0, 1) := by decide +kernel
theorem dX6_finds_48 : decode cX6_finds 48 = .ok (.getfield 47, 3) := by decide +kernel
theorem dX6_finds_51 : decode cX6_finds 51 = .ok (.bipush 97, 2) := by decide +kernel
theorem dX6_finds_53 : decode cX6_finds 53 = .ok (.iaload, 1) := by decide +kernel
theorem dX6_finds_54 : decode cX6_finds 54 = .ok (.ifCond .ge 76, 3) := by decide +kernel
theorem dX6_finds_57 : decode cX6_finds 57 = .ok (.iconst 0, 1) := by decide +kernel
theorem dX6_finds_58 : decode cX6_finds 58 = .ok (.istore_n 3, 1) := by decide +kernel
theorem dX6_finds_59 : decode cX6_finds 59 = .ok (.iload_n 3, 1) := by decide +kernel
theorem dX6_finds_60 : decode cX6_finds 60 = .ok (.bipush 98, 2) := by decide +kernel
theorem dX6_finds_62 : decode cX6_finds 62 = .ok (.if_icmp .ge 62, 3) := by decide +kernel
theorem dX6_finds_65 : decode cX6_finds 65 = .ok (.aload_n 0, 1) := by decide +kernel
theorem dX6_finds_66 : decode cX6_finds 66 = .ok (.getfield 47, 3) := by decide +kernel
theorem dX6_finds_69 : decode cX6_finds 69 = .ok (.iload_n 3, 1) := by decide +kernel
theorem dX6_finds_70 : decode cX6_finds 70 = .ok (.iaload, 1) := by decide +kernel
theorem dX6_finds_71 : decode cX6_finds 71 = .ok (.ifCond .ge 47, 3) := by decide +kernel
theorem dX6_finds_74 : decode cX6_finds 74 = .ok (.aload_n 0, 1) := by decide +kernel
theorem dX6_finds_75 : decode cX6_finds 75 = .ok (.getfield 44, 3) := by decide +kernel
theorem dX6_finds_78 : decode cX6_finds 78 = .ok (.bipush 98, 2) := by decide +kernel
theorem dX6_finds_80 : decode cX6_finds 80 = .ok (.aload_n 0, 1) := by decide +kernel
theorem dX6_finds_81 : decode cX6_finds 81 = .ok (.getfield 50, 3) := by decide +kernel
theorem dX6_finds_84 : decode cX6_finds 84 = .ok (.iload_n 2, 1) := by decide +kernel
theorem dX6_finds_85 : decode cX6_finds 85 = .ok (.iaload, 1) := by decide +kernel
theorem dX6_finds_86 : decode cX6_finds 86 = .ok (.imul, 1) := by decide +kernel
theorem dX6_finds_87 : decode cX6_finds 87 = .ok (.iload_n 3, 1) := by decide +kernel
theorem dX6_finds_88 : decode cX6_finds 88 = .ok (.iadd, 1) := by decide +kernel
theorem dX6_finds_89 : decode cX6_finds 89 = .ok (.baload, 1) := by decide +kernel
theorem dX6_finds_90 : decode cX6_finds 90 = .ok (.ifCond .ne 6, 3) := by decide +kernel
theorem dX6_finds_93 : decode cX6_finds 93 = .ok (.goto 25, 3) := by decide +kernel
theorem dX6_finds_96 : decode cX6_finds 96 = .ok (.aload_n 0, 1) := by decide +kernel
theorem dX6_finds_97 : decode cX6_finds 97 = .ok (.getfield 47, 3) := by decide +kernel
theorem dX6_finds_100 : decode cX6_finds 100 = .ok (.iload_n 3, 1) := by decide +kernel
theorem dX6_finds_101 : decode cX6_finds 101 = .ok (.aload_n 0, 1) := by decide +kernel
theorem dX6_finds_102 : decode cX6_finds 102 = .ok (.getfield 50, 3) := by decide +kernel
theorem dX6_finds_105 : decode cX6_finds 105 = .ok (.iload_n 2, 1) := by decide +kernel
theorem dX6_finds_106 : decode cX6_finds 106 = .ok (.iaload, 1) := by decide +kernel
theorem dX6_finds_107 : decode cX6_finds 107 = .ok (.iastore, 1) := by decide +kernel
theorem dX6_finds_108 : decode cX6_finds 108 = .ok (.aload_n 0, 1) := by decide +kernel
theorem dX6_finds_109 : decode cX6_finds 109 = .ok (.getfield 50, 3) := by decide +kernel
theorem dX6_finds_112 : decode cX6_finds 112 = .ok (.iload_n 1, 1) := by decide +kernel
theorem dX6_finds_113 : decode cX6_finds 113 = .ok (.iload_n 3, 1) := by decide +kernel
theorem dX6_finds_114 : decode cX6_finds 114 = .ok (.iastore, 1) := by decide +kernel
theorem dX6_finds_115 : decode cX6_finds 115 = .ok (.iinc 1 1, 3) := by decide +kernel
theorem dX6_finds_118 : decode cX6_finds 118 = .ok (.iinc 3 1, 3) := by decide +kernel
theorem dX6_finds_121 : decode cX6_finds 121 = .ok (.goto (-62), 3) := by decide +kernel
theorem dX6_finds_124 : decode cX6_finds 124 = .ok (.iinc 2 1, 3) := by decide +kernel
theorem dX6_finds_127 : decode cX6_finds 127 = .ok (.goto (-85), 3) := by decide +kernel
theorem dX6_finds_130 : decode cX6_finds 130 = .ok (.aload_n 0, 1) := by decide +kernel
theorem dX6_finds_131 : decode cX6_finds 131 = .ok (.getfield 47, 3) := by decide +kernel
theorem dX6_finds_134 : decode cX6_finds 134 = .ok (.bipush 97, 2) := by decide +kernel
theorem dX6_finds_136 : decode cX6_finds 136 = .ok (.iaload, 1) := by decide +kernel
theorem dX6_finds_137 : decode cX6_finds 137 = .ok (.ifCond .lt 7, 3) := by decide +kernel
theorem dX6_finds_140 : decode cX6_finds 140 = .ok (.iconst 1, 1) := by decide +kernel
theorem dX6_finds_141 : decode cX6_finds 141 = .ok (.goto 4, 3) := by decide +kernel
theorem dX6_finds_144 : decode cX6_finds 144 = .ok (.iconst 0, 1) := by decide +kernel
theorem dX6_finds_145 : decode cX6_finds 145 = .ok (.ireturn, 1) := by decide +kernel
theorem dX6_send_0 : decode cX6_send 0 = .ok (.aload_n 0, 1) := by decide +kernel
theorem dX6_send_1 : decode cX6_send 1 = .ok (.iconst 0, 1) := by decide +kernel
theorem dX6_send_2 : decode cX6_send 2 = .ok (.putfield 89, 3) := by decide +kernel
theorem dX6_send_5 : decode cX6_send 5 = .ok (.aload_n 0, 1) := by decide +kernel
theorem dX6_send_6 : decode cX6_send 6 = .ok (.aload_n 0, 1) := by decide +kernel
theorem dX6_send_7 : decode cX6_send 7 = .ok (.iload_n 1, 1) := by decide +kernel
theorem dX6_send_8 : decode cX6_send 8 = .ok (.invokevirtual 150, 3) := by decide +kernel
theorem dX6_send_11 : decode cX6_send 11 = .ok (.ifCond .ne 11, 3) := by decide +kernel
theorem dX6_send_14 : decode cX6_send 14 = .ok (.aload_n 0, 1) := by decide +kernel
theorem dX6_send_15 : decode cX6_send 15 = .ok (.iload_n 2, 1) := by decide +kernel
theorem dX6_send_16 : decode cX6_send 16 = .ok (.invokevirtual 150, 3) := by decide +kernel
theorem dX6_send_19 : decode cX6_send 19 = .ok (.ifCond .eq 7, 3) := by decide +kernel
theorem dX6_send_22 : decode cX6_send 22 = .ok (.iconst 1, 1) := by decide +kernel
theorem dX6_send_23 : decode cX6_send 23 = .ok (.goto 4, 3) := by decide +kernel
theorem dX6_send_26 : decode cX6_send 26 = .ok (.iconst 0, 1) := by decide +kernel
theorem dX6_send_27 : decode cX6_send 27 = .ok (.iconst 1, 1) := by decide +kernel
theorem dX6_send_28 : decode cX6_send 28 = .ok (.invokevirtual 107, 3) := by decide +kernel
theorem dX6_send_31 : decode cX6_send 31 = .ok (.ifCond .ne 43, 3) := by decide +kernel
theorem dX6_send_34 : decode cX6_send 34 = .ok (.aload_n 0, 1) := by decide +kernel
theorem dX6_send_35 : decode cX6_send 35 = .ok (.iload_n 1, 1) := by decide +kernel
theorem dX6_send_36 : decode cX6_send 36 = .ok (.iload_n 2, 1) := by decide +kernel
theorem dX6_send_37 : decode cX6_send 37 = .ok (.if_icmp .ne 7, 3) := by decide +kernel
theorem dX6_send_40 : decode cX6_send 40 = .ok (.iconst 1, 1) := by decide +kernel
theorem dX6_send_41 : decode cX6_send 41 = .ok (.goto 4, 3) := by decide +kernel
theorem dX6_send_44 : decode cX6_send 44 = .ok (.iconst 0, 1) := by decide +kernel
theorem dX6_send_45 : decode cX6_send 45 = .ok (.iconst 2, 1) := by decide +kernel
theorem dX6_send_46 : decode cX6_send 46 = .ok (.invokevirtual 107, 3) := by decide +kernel
theorem dX6_send_49 : decode cX6_send 49 = .ok (.ifCond .ne 25, 3) := by decide +kernel
theorem dX6_send_52 : decode cX6_send 52 = .ok (.aload_n 0, 1) := by decide +kernel
theorem dX6_send_53 : decode cX6_send 53 = .ok (.aload_n 0, 1) := by decide +kernel
theorem dX6_send_54 : decode cX6_send 54 = .ok (.getfield 104, 3) := by decide +kernel
theorem dX6_send_57 : decode cX6_send 57 = .ok (.bipush 60, 2) := by decide +kernel
theorem dX6_send_59 : decode cX6_send 59 = .ok (.if_icmp .ne 7, 3) := by decide +kernel
theorem dX6_send_62 : decode cX6_send 62 = .ok (.iconst 1, 1) := by decide +kernel
theorem dX6_send_63 : decode cX6_send 63 = .ok (.goto 4, 3) := by decide +kernel
theorem dX6_send_66 : decode cX6_send 66 = .ok (.iconst 0, 1) := by decide +kernel
theorem dX6_send_67 : decode cX6_send 67 = .ok (.iconst 3, 1) := by decide +kernel
theorem dX6_send_68 : decode cX6_send 68 = .ok (.invokevirtual 107, 3) := by decide +kernel
theorem dX6_send_71 : decode cX6_send 71 = .ok (.ifCond .eq 5, 3) := by decide +kernel
theorem dX6_send_74 : decode cX6_send 74 = .ok (.iconst 0, 1) := by decide +kernel
theorem dX6_send_75 : decode cX6_send 75 = .ok (.ireturn, 1) := by decide +kernel
theorem dX6_send_76 : decode cX6_send 76 = .ok (.aload_n 0, 1) := by decide +kernel
theorem dX6_send_77 : decode cX6_send 77 = .ok (.getfield 53, 3) := by decide +kernel
theorem dX6_send_80 : decode cX6_send 80 = .ok (.aload_n 0, 1) := by decide +kernel
theorem dX6_send_81 : decode cX6_send 81 = .ok (.getfield 104, 3) := by decide +kernel
theorem dX6_send_84 : decode cX6_send 84 = .ok (.iload_n 1, 1) := by decide +kernel
theorem dX6_send_85 : decode cX6_send 85 = .ok (.iastore, 1) := by decide +kernel
theorem dX6_send_86 : decode cX6_send 86 = .ok (.aload_n 0, 1) := by decide +kernel
theorem dX6_send_87 : decode cX6_send 87 = .ok (.getfield 56, 3) := by decide +kernel
theorem dX6_send_90 : decode cX6_send 90 = .ok (.aload_n 0, 1) := by decide +kernel
theorem dX6_send_91 : decode cX6_send 91 = .ok (.getfield 104, 3) := by decide +kernel
theorem dX6_send_94 : decode cX6_send 94 = .ok (.iload_n 2, 1) := by decide +kernel
theorem dX6_send_95 : decode cX6_send 95 = .ok (.iastore, 1) := by decide +kernel
theorem dX6_send_96 : decode cX6_send 96 = .ok (.aload_n 0, 1) := by decide +kernel
theorem dX6_send_97 : decode cX6_send 97 = .ok (.getfield 59, 3) := by decide +kernel
theorem dX6_send_100 : decode cX6_send 100 = .ok (.aload_n 0, 1) := by decide +kernel
theorem dX6_send_101 : decode cX6_send 101 = .ok (.getfield 104, 3) := by decide +kernel
theorem dX6_send_104 : decode cX6_send 104 = .ok (.iconst 0, 1) := by decide +kernel
theorem dX6_send_105 : decode cX6_send 105 = .ok (.iastore, 1) := by decide +kernel
theorem dX6_send_106 : decode cX6_send 106 = .ok (.aload_n 0, 1) := by decide +kernel
theorem dX6_send_107 : decode cX6_send 107 = .ok (.getfield 62, 3) := by decide +kernel
theorem dX6_send_110 : decode cX6_send 110 = .ok (.aload_n 0, 1) := by decide +kernel
theorem dX6_send_111 : decode cX6_send 111 = .ok (.getfield 104, 3) := by decide +kernel
theorem dX6_send_114 : decode cX6_send 114 = .ok (.iconst (-1), 1) := by decide +kernel
theorem dX6_send_115 : decode cX6_send 115 = .ok (.iastore, 1) := by decide +kernel
theorem dX6_send_116 : decode cX6_send 116 = .ok (.aload_n 0, 1) := by decide +kernel
theorem dX6_send_117 : decode cX6_send 117 = .ok (.getfield 65, 3) := by decide +kernel
theorem dX6_send_120 : decode cX6_send 120 = .ok (.aload_n 0, 1) := by decide +kernel
theorem dX6_send_121 : decode cX6_send 121 = .ok (.getfield 104, 3) := by decide +kernel
theorem dX6_send_124 : decode cX6_send 124 = .ok (.iconst (-1), 1) := by decide +kernel
theorem dX6_send_125 : decode cX6_send 125 = .ok (.iastore, 1) := by decide +kernel
theorem dX6_send_126 : decode cX6_send 126 = .ok (.aload_n 0, 1) := by decide +kernel
theorem dX6_send_127 : decode cX6_send 127 = .ok (.getfield 74, 3) := by decide +kernel
theorem dX6_send_130 : decode cX6_send 130 = .ok (.aload_n 0, 1) := by decide +kernel
theorem dX6_send_131 : decode cX6_send 131 = .ok (.getfield 104, 3) := by decide +kernel
theorem dX6_send_134 : decode cX6_send 134 = .ok (.aload_n 0, 1) := by decide +kernel
theorem dX6_send_135 : decode cX6_send 135 = .ok (.getfield 180, 3) := by decide +kernel
theorem dX6_send_138 : decode cX6_send 138 = .ok (.iastore, 1) := by decide +kernel
theorem dX6_send_139 : decode cX6_send 139 = .ok (.aload_n 0, 1) := by decide +kernel
theorem dX6_send_140 : decode cX6_send 140 = .ok (.getfield 77, 3) := by decide +kernel
theorem dX6_send_143 : decode cX6_send 143 = .ok (.aload_n 0, 1) := by decide +kernel
theorem dX6_send_144 : decode cX6_send 144 = .ok (.getfield 104, 3) := by decide +kernel
theorem dX6_send_147 : decode cX6_send 147 = .ok (.iconst (-1), 1) := by decide +kernel
theorem dX6_send_148 : decode cX6_send 148 = .ok (.iastore, 1) := by decide +kernel
theorem dX6_send_149 : decode cX6_send 149 = .ok (.aload_n 0, 1) := by decide +kernel
theorem dX6_send_150 : decode cX6_send 150 = .ok (.getfield 80, 3) := by decide +kernel
theorem dX6_send_153 : decode cX6_send 153 = .ok (.aload_n 0, 1) := by decide +kernel
theorem dX6_send_154 : decode cX6_send 154 = .ok (.getfield 104, 3) := by decide +kernel
theorem dX6_send_157 : decode cX6_send 157 = .ok (.iconst (-1), 1) := by decide +kernel
theorem dX6_send_158 : decode cX6_send 158 = .ok (.iastore, 1) := by decide +kernel
theorem dX6_send_159 : decode cX6_send 159 = .ok (.aload_n 0, 1) := by decide +kernel
theorem dX6_send_160 : decode cX6_send 160 = .ok (.dup, 1) := by decide +kernel
theorem dX6_send_161 : decode cX6_send 161 = .ok (.getfield 104, 3) := by decide +kernel
theorem dX6_send_164 : decode cX6_send 164 = .ok (.iconst 1, 1) := by decide +kernel
theorem dX6_send_165 : decode cX6_send 165 = .ok (.iadd, 1) := by decide +kernel
theorem dX6_send_166 : decode cX6_send 166 = .ok (.putfield 104, 3) := by decide +kernel
theorem dX6_send_169 : decode cX6_send 169 = .ok (.aload_n 0, 1) := by decide +kernel
theorem dX6_send_170 : decode cX6_send 170 = .ok (.getfield 104, 3) := by decide +kernel
theorem dX6_send_173 : decode cX6_send 173 = .ok (.iconst 1, 1) := by decide +kernel
theorem dX6_send_174 : decode cX6_send 174 = .ok (.isub, 1) := by decide +kernel
theorem dX6_send_175 : decode cX6_send 175 = .ok (.ireturn, 1) := by decide +kernel
theorem dX6_choice_0 : decode cX6_choice 0 = .ok (.aload_n 0, 1) := by decide +kernel
theorem dX6_choice_1 : decode cX6_choice 1 = .ok (.getfield 56, 3) := by decide +kernel
theorem dX6_choice_4 : decode cX6_choice 4 = .ok (.iload_n 1, 1) := by decide +kernel
theorem dX6_choice_5 : decode cX6_choice 5 = .ok (.iaload, 1) := by decide +kernel
theorem dX6_choice_6 : decode cX6_choice 6 = .ok (.istore_n 2, 1) := by decide +kernel
theorem dX6_choice_7 : decode cX6_choice 7 = .ok (.aload_n 0, 1) := by decide +kernel
theorem dX6_choice_8 : decode cX6_choice 8 = .ok (.iload_n 2, 1) := by decide +kernel
theorem dX6_choice_9 : decode cX6_choice 9 = .ok (.invokevirtual 163, 3) := by decide +kernel
theorem dX6_choice_12 : decode cX6_choice 12 = .ok (.aload_n 0, 1) := by decide +kernel
theorem dX6_choice_13 : decode cX6_choice 13 = .ok (.getfield 59, 3) := by decide +kernel
theorem dX6_choice_16 : decode cX6_choice 16 = .ok (.iload_n 1, 1) := by decide +kernel
theorem dX6_choice_17 : decode cX6_choice 17 = .ok (.iaload, 1) := by decide +kernel
theorem dX6_choice_18 : decode cX6_choice 18 = .ok (.ifCond .ne 21, 3) := by decide +kernel
theorem dX6_choice_21 : decode cX6_choice 21 = .ok (.aload_n 0, 1) := by decide +kernel
theorem dX6_choice_22 : decode cX6_choice 22 = .ok (.aload_n 0, 1) := by decide +kernel
theorem dX6_choice_23 : decode cX6_choice 23 = .ok (.getfield 53, 3) := by decide +kernel
theorem dX6_choice_26 : decode cX6_choice 26 = .ok (.iload_n 1, 1) := by decide +kernel
theorem dX6_choice_27 : decode cX6_choice 27 = .ok (.iaload, 1) := by decide +kernel
theorem dX6_choice_28 : decode cX6_choice 28 = .ok (.iload_n 2, 1) := by decide +kernel
theorem dX6_choice_29 : decode cX6_choice 29 = .ok (.aload_n 0, 1) := by decide +kernel
theorem dX6_choice_30 : decode cX6_choice 30 = .ok (.getfield 180, 3) := by decide +kernel
theorem dX6_choice_33 : decode cX6_choice 33 = .ok (.invokevirtual 167, 3) := by decide +kernel
theorem dX6_choice_36 : decode cX6_choice 36 = .ok (.goto 18, 3) := by decide +kernel
theorem dX6_choice_39 : decode cX6_choice 39 = .ok (.aload_n 0, 1) := by decide +kernel
theorem dX6_choice_40 : decode cX6_choice 40 = .ok (.iload_n 2, 1) := by decide +kernel
theorem dX6_choice_41 : decode cX6_choice 41 = .ok (.aload_n 0, 1) := by decide +kernel
theorem dX6_choice_42 : decode cX6_choice 42 = .ok (.getfield 62, 3) := by decide +kernel
theorem dX6_choice_45 : decode cX6_choice 45 = .ok (.iload_n 1, 1) := by decide +kernel
theorem dX6_choice_46 : decode cX6_choice 46 = .ok (.iaload, 1) := by decide +kernel
theorem dX6_choice_47 : decode cX6_choice 47 = .ok (.aload_n 0, 1) := by decide +kernel
theorem dX6_choice_48 : decode cX6_choice 48 = .ok (.getfield 180, 3) := by decide +kernel
theorem dX6_choice_51 : decode cX6_choice 51 = .ok (.invokevirtual 154, 3) := by decide +kernel
theorem dX6_choice_54 : decode cX6_choice 54 = .ok (.istore_n 3, 1) := by decide +kernel
theorem dX6_choice_55 : decode cX6_choice 55 = .ok (.iload_n 3, 1) := by decide +kernel
theorem dX6_choice_56 : decode cX6_choice 56 = .ok (.ldc 153, 2) := by decide +kernel
theorem dX6_choice_58 : decode cX6_choice 58 = .ok (.if_icmp .lt 5, 3) := by decide +kernel
theorem dX6_choice_61 : decode cX6_choice 61 = .ok (.iconst (-1), 1) := by decide +kernel
theorem dX6_choice_62 : decode cX6_choice 62 = .ok (.ireturn, 1) := by decide +kernel
theorem dX6_choice_63 : decode cX6_choice 63 = .ok (.aload_n 0, 1) := by decide +kernel
theorem dX6_choice_64 : decode cX6_choice 64 = .ok (.getfield 59, 3) := by decide +kernel
theorem dX6_choice_67 : decode cX6_choice 67 = .ok (.iload_n 1, 1) := by decide +kernel
theorem dX6_choice_68 : decode cX6_choice 68 = .ok (.iaload, 1) := by decide +kernel
theorem dX6_choice_69 : decode cX6_choice 69 = .ok (.iconst 1, 1) := by decide +kernel
theorem dX6_choice_70 : decode cX6_choice 70 = .ok (.if_icmp .ne 30, 3) := by decide +kernel
theorem dX6_choice_73 : decode cX6_choice 73 = .ok (.iload_n 3, 1) := by decide +kernel
theorem dX6_choice_74 : decode cX6_choice 74 = .ok (.iconst 1, 1) := by decide +kernel
theorem dX6_choice_75 : decode cX6_choice 75 = .ok (.if_icmp .ne 25, 3) := by decide +kernel
theorem dX6_choice_78 : decode cX6_choice 78 = .ok (.aload_n 0, 1) := by decide +kernel
theorem dX6_choice_79 : decode cX6_choice 79 = .ok (.iload_n 2, 1) := by decide +kernel
theorem dX6_choice_80 : decode cX6_choice 80 = .ok (.aload_n 0, 1) := by decide +kernel
theorem dX6_choice_81 : decode cX6_choice 81 = .ok (.getfield 62, 3) := by decide +kernel
theorem dX6_choice_84 : decode cX6_choice 84 = .ok (.iload_n 1, 1) := by decide +kernel
theorem dX6_choice_85 : decode cX6_choice 85 = .ok (.iaload, 1) := by decide +kernel
theorem dX6_choice_86 : decode cX6_choice 86 = .ok (.aload_n 0, 1) := by decide +kernel
theorem dX6_choice_87 : decode cX6_choice 87 = .ok (.getfield 180, 3) := by decide +kernel
theorem dX6_choice_90 : decode cX6_choice 90 = .ok (.invokevirtual 157, 3) := by decide +kernel
theorem dX6_choice_93 : decode cX6_choice 93 = .ok (.ifCond .eq 7, 3) := by decide +kernel
theorem dX6_choice_96 : decode cX6_choice 96 = .ok (.sipush 1000, 3) := by decide +kernel
theorem dX6_choice_99 : decode cX6_choice 99 = .ok (.ireturn, 1) := by decide +kernel
theorem dX6_choice_100 : decode cX6_choice 100 = .ok (.iconst 0, 1) := by decide +kernel
theorem dX6_choice_101 : decode cX6_choice 101 = .ok (.istore 4, 2) := by decide +kernel
theorem dX6_choice_103 : decode cX6_choice 103 = .ok (.iload 4, 2) := by decide +kernel
theorem dX6_choice_105 : decode cX6_choice 105 = .ok (.aload_n 0, 1) := by decide +kernel
theorem dX6_choice_106 : decode cX6_choice 106 = .ok (.getfield 93, 3) := by decide +kernel
theorem dX6_choice_109 : decode cX6_choice 109 = .ok (.if_icmp .ge 92, 3) := by decide +kernel
theorem dX6_choice_112 : decode cX6_choice 112 = .ok (.aload_n 0, 1) := by decide +kernel
theorem dX6_choice_113 : decode cX6_choice 113 = .ok (.getfield 59, 3) := by decide +kernel
theorem dX6_choice_116 : decode cX6_choice 116 = .ok (.iload_n 1, 1) := by decide +kernel
theorem dX6_choice_117 : decode cX6_choice 117 = .ok (.iaload, 1) := by decide +kernel
theorem dX6_choice_118 : decode cX6_choice 118 = .ok (.ifCond .ne 30, 3) := by decide +kernel
theorem dX6_choice_121 : decode cX6_choice 121 = .ok (.aload_n 0, 1) := by decide +kernel
theorem dX6_choice_122 : decode cX6_choice 122 = .ok (.aload_n 0, 1) := by decide +kernel
theorem dX6_choice_123 : decode cX6_choice 123 = .ok (.getfield 53, 3) := by decide +kernel
theorem dX6_choice_126 : decode cX6_choice 126 = .ok (.iload_n 1, 1) := by decide +kernel
theorem dX6_choice_127 : decode cX6_choice 127 = .ok (.iaload, 1) := by decide +kernel
theorem dX6_choice_128 : decode cX6_choice 128 = .ok (.iload 4, 2) := by decide +kernel
theorem dX6_choice_130 : decode cX6_choice 130 = .ok (.aload_n 0, 1) := by decide +kernel
theorem dX6_choice_131 : decode cX6_choice 131 = .ok (.getfield 180, 3) := by decide +kernel
theorem dX6_choice_134 : decode cX6_choice 134 = .ok (.invokevirtual 157, 3) := by decide +kernel
theorem dX6_choice_137 : decode cX6_choice 137 = .ok (.ifCond .eq 7, 3) := by decide +kernel
theorem dX6_choice_140 : decode cX6_choice 140 = .ok (.iconst 1, 1) := by decide +kernel
theorem dX6_choice_141 : decode cX6_choice 141 = .ok (.goto 23, 3) := by decide +kernel
theorem dX6_choice_144 : decode cX6_choice 144 = .ok (.iconst 0, 1) := by decide +kernel
theorem dX6_choice_145 : decode cX6_choice 145 = .ok (.goto 19, 3) := by decide +kernel
theorem dX6_choice_148 : decode cX6_choice 148 = .ok (.aload_n 0, 1) := by decide +kernel
theorem dX6_choice_149 : decode cX6_choice 149 = .ok (.aload_n 0, 1) := by decide +kernel
theorem dX6_choice_150 : decode cX6_choice 150 = .ok (.getfield 62, 3) := by decide +kernel
theorem dX6_choice_153 : decode cX6_choice 153 = .ok (.iload_n 1, 1) := by decide +kernel
theorem dX6_choice_154 : decode cX6_choice 154 = .ok (.iaload, 1) := by decide +kernel
theorem dX6_choice_155 : decode cX6_choice 155 = .ok (.iload 4, 2) := by decide +kernel
theorem dX6_choice_157 : decode cX6_choice 157 = .ok (.aload_n 0, 1) := by decide +kernel
theorem dX6_choice_158 : decode cX6_choice 158 = .ok (.getfield 180, 3) := by decide +kernel
theorem dX6_choice_161 : decode cX6_choice 161 = .ok (.invokevirtual 160, 3) := by decide +kernel
theorem dX6_choice_164 : decode cX6_choice 164 = .ok (.istore 5, 2) := by decide +kernel
theorem dX6_choice_166 : decode cX6_choice 166 = .ok (.iload 5, 2) := by decide +kernel
theorem dX6_choice_168 : decode cX6_choice 168 = .ok (.ifCond .le 27, 3) := by decide +kernel
theorem dX6_choice_171 : decode cX6_choice 171 = .ok (.iload 5, 2) := by decide +kernel
theorem dX6_choice_173 : decode cX6_choice 173 = .ok (.aload_n 0, 1) := by decide +kernel
theorem dX6_choice_174 : decode cX6_choice 174 = .ok (.iload_n 2, 1) := by decide +kernel
theorem dX6_choice_175 : decode cX6_choice 175 = .ok (.iload 4, 2) := by decide +kernel
theorem dX6_choice_177 : decode cX6_choice 177 = .ok (.aload_n 0, 1) := by decide +kernel
theorem dX6_choice_178 : decode cX6_choice 178 = .ok (.getfield 180, 3) := by decide +kernel
theorem dX6_choice_181 : decode cX6_choice 181 = .ok (.iload 5, 2) := by decide +kernel
theorem dX6_choice_183 : decode cX6_choice 183 = .ok (.iadd, 1) := by decide +kernel
theorem dX6_choice_184 : decode cX6_choice 184 = .ok (.invokevirtual 154, 3) := by decide +kernel
theorem dX6_choice_187 : decode cX6_choice 187 = .ok (.iadd, 1) := by decide +kernel
theorem dX6_choice_188 : decode cX6_choice 188 = .ok (.iload_n 3, 1) := by decide +kernel
theorem dX6_choice_189 : decode cX6_choice 189 = .ok (.if_icmp .ne 6, 3) := by decide +kernel
theorem dX6_choice_192 : decode cX6_choice 192 = .ok (.iload 4, 2) := by decide +kernel
theorem dX6_choice_194 : decode cX6_choice 194 = .ok (.ireturn, 1) := by decide +kernel
theorem dX6_choice_195 : decode cX6_choice 195 = .ok (.iinc 4 1, 3) := by decide +kernel
theorem dX6_choice_198 : decode cX6_choice 198 = .ok (.goto (-95), 3) := by decide +kernel
theorem dX6_choice_201 : decode cX6_choice 201 = .ok (.iconst (-1), 1) := by decide +kernel
theorem dX6_choice_202 : decode cX6_choice 202 = .ok (.ireturn, 1) := by decide +kernel
theorem dX6_isTaken_0 : decode cX6_isTaken 0 = .ok (.iconst 0, 1) := by decide +kernel
theorem dX6_isTaken_1 : decode cX6_isTaken 1 = .ok (.istore_n 3, 1) := by decide +kernel
theorem dX6_isTaken_2 : decode cX6_isTaken 2 = .ok (.iconst 0, 1) := by decide +kernel
theorem dX6_isTaken_3 : decode cX6_isTaken 3 = .ok (.istore 4, 2) := by decide +kernel
theorem dX6_isTaken_5 : decode cX6_isTaken 5 = .ok (.iload 4, 2) := by decide +kernel
theorem dX6_isTaken_7 : decode cX6_isTaken 7 = .ok (.aload_n 0, 1) := by decide +kernel
theorem dX6_isTaken_8 : decode cX6_isTaken 8 = .ok (.getfield 183, 3) := by decide +kernel
theorem dX6_isTaken_11 : decode cX6_isTaken 11 = .ok (.if_icmp .ge 41, 3) := by decide +kernel
theorem dX6_isTaken_14 : decode cX6_isTaken 14 = .ok (.iload_n 3, 1) := by decide +kernel
theorem dX6_isTaken_15 : decode cX6_isTaken 15 = .ok (.ifCond .ne 25, 3) := by decide +kernel
theorem dX6_isTaken_18 : decode cX6_isTaken 18 = .ok (.aload_n 0, 1) := by decide +kernel
theorem dX6_isTaken_19 : decode cX6_isTaken 19 = .ok (.getfield 83, 3) := by decide +kernel
theorem dX6_isTaken_22 : decode cX6_isTaken 22 = .ok (.iload 4, 2) := by decide +kernel
theorem dX6_isTaken_24 : decode cX6_isTaken 24 = .ok (.iaload, 1) := by decide +kernel
theorem dX6_isTaken_25 : decode cX6_isTaken 25 = .ok (.iload_n 1, 1) := by decide +kernel
theorem dX6_isTaken_26 : decode cX6_isTaken 26 = .ok (.if_icmp .ne 18, 3) := by decide +kernel
theorem dX6_isTaken_29 : decode cX6_isTaken 29 = .ok (.aload_n 0, 1) := by decide +kernel
theorem dX6_isTaken_30 : decode cX6_isTaken 30 = .ok (.getfield 86, 3) := by decide +kernel
theorem dX6_isTaken_33 : decode cX6_isTaken 33 = .ok (.iload 4, 2) := by decide +kernel
theorem dX6_isTaken_35 : decode cX6_isTaken 35 = .ok (.iaload, 1) := by decide +kernel
theorem dX6_isTaken_36 : decode cX6_isTaken 36 = .ok (.iload_n 2, 1) := by decide +kernel
theorem dX6_isTaken_37 : decode cX6_isTaken 37 = .ok (.if_icmp .ne 7, 3) := by decide +kernel
theorem dX6_isTaken_40 : decode cX6_isTaken 40 = .ok (.iconst 1, 1) := by decide +kernel
theorem dX6_isTaken_41 : decode cX6_isTaken 41 = .ok (.goto 4, 3) := by decide +kernel
theorem dX6_isTaken_44 : decode cX6_isTaken 44 = .ok (.iconst 0, 1) := by decide +kernel
theorem dX6_isTaken_45 : decode cX6_isTaken 45 = .ok (.istore_n 3, 1) := by decide +kernel
theorem dX6_isTaken_46 : decode cX6_isTaken 46 = .ok (.iinc 4 1, 3) := by decide +kernel
theorem dX6_isTaken_49 : decode cX6_isTaken 49 = .ok (.goto (-44), 3) := by decide +kernel
theorem dX6_isTaken_52 : decode cX6_isTaken 52 = .ok (.iload_n 3, 1) := by decide +kernel
theorem dX6_isTaken_53 : decode cX6_isTaken 53 = .ok (.ireturn, 1) := by decide +kernel
theorem dX6_moves_0 : decode cX6_moves 0 = .ok (.aload_n 0, 1) := by decide +kernel
theorem dX6_moves_1 : decode cX6_moves 1 = .ok (.iload_n 1, 1) := by decide +kernel
theorem dX6_moves_2 : decode cX6_moves 2 = .ok (.invokevirtual 186, 3) := by decide +kernel
theorem dX6_moves_5 : decode cX6_moves 5 = .ok (.istore_n 2, 1) := by decide +kernel
theorem dX6_moves_6 : decode cX6_moves 6 = .ok (.iload_n 2, 1) := by decide +kernel
theorem dX6_moves_7 : decode cX6_moves 7 = .ok (.iconst (-1), 1) := by decide +kernel
theorem dX6_moves_8 : decode cX6_moves 8 = .ok (.if_icmp .ne 4, 3) := by decide +kernel
theorem dX6_moves_11 : decode cX6_moves 11 = .ok (.return_, 1) := by decide +kernel
theorem dX6_moves_12 : decode cX6_moves 12 = .ok (.aload_n 0, 1) := by decide +kernel
theorem dX6_moves_13 : decode cX6_moves 13 = .ok (.getfield 59, 3) := by decide +kernel
theorem dX6_moves_16 : decode cX6_moves 16 = .ok (.iload_n 1, 1) := by decide +kernel
theorem dX6_moves_17 : decode cX6_moves 17 = .ok (.iaload, 1) := by decide +kernel
theorem dX6_moves_18 : decode cX6_moves 18 = .ok (.ifCond .ne 16, 3) := by decide +kernel
theorem dX6_moves_21 : decode cX6_moves 21 = .ok (.sipush 1000, 3) := by decide +kernel
theorem dX6_moves_24 : decode cX6_moves 24 = .ok (.aload_n 0, 1) := by decide +kernel
theorem dX6_moves_25 : decode cX6_moves 25 = .ok (.getfield 53, 3) := by decide +kernel
theorem dX6_moves_28 : decode cX6_moves 28 = .ok (.iload_n 1, 1) := by decide +kernel
theorem dX6_moves_29 : decode cX6_moves 29 = .ok (.iaload, 1) := by decide +kernel
theorem dX6_moves_30 : decode cX6_moves 30 = .ok (.iadd, 1) := by decide +kernel
theorem dX6_moves_31 : decode cX6_moves 31 = .ok (.goto 9, 3) := by decide +kernel
theorem dX6_moves_34 : decode cX6_moves 34 = .ok (.aload_n 0, 1) := by decide +kernel
theorem dX6_moves_35 : decode cX6_moves 35 = .ok (.getfield 62, 3) := by decide +kernel
theorem dX6_moves_38 : decode cX6_moves 38 = .ok (.iload_n 1, 1) := by decide +kernel
theorem dX6_moves_39 : decode cX6_moves 39 = .ok (.iaload, 1) := by decide +kernel
theorem dX6_moves_40 : decode cX6_moves 40 = .ok (.istore_n 3, 1) := by decide +kernel
theorem dX6_moves_41 : decode cX6_moves 41 = .ok (.iload_n 2, 1) := by decide +kernel
theorem dX6_moves_42 : decode cX6_moves 42 = .ok (.sipush 1000, 3) := by decide +kernel
theorem dX6_moves_45 : decode cX6_moves 45 = .ok (.if_icmp .ne 16, 3) := by decide +kernel
theorem dX6_moves_48 : decode cX6_moves 48 = .ok (.sipush 1000, 3) := by decide +kernel
theorem dX6_moves_51 : decode cX6_moves 51 = .ok (.aload_n 0, 1) := by decide +kernel
theorem dX6_moves_52 : decode cX6_moves 52 = .ok (.getfield 56, 3) := by decide +kernel
theorem dX6_moves_55 : decode cX6_moves 55 = .ok (.iload_n 1, 1) := by decide +kernel
theorem dX6_moves_56 : decode cX6_moves 56 = .ok (.iaload, 1) := by decide +kernel
theorem dX6_moves_57 : decode cX6_moves 57 = .ok (.iadd, 1) := by decide +kernel
theorem dX6_moves_58 : decode cX6_moves 58 = .ok (.goto 4, 3) := by decide +kernel
theorem dX6_moves_61 : decode cX6_moves 61 = .ok (.iload_n 2, 1) := by decide +kernel
theorem dX6_moves_62 : decode cX6_moves 62 = .ok (.istore 4, 2) := by decide +kernel
theorem dX6_moves_64 : decode cX6_moves 64 = .ok (.aload_n 0, 1) := by decide +kernel
theorem dX6_moves_65 : decode cX6_moves 65 = .ok (.iload_n 3, 1) := by decide +kernel
theorem dX6_moves_66 : decode cX6_moves 66 = .ok (.iload 4, 2) := by decide +kernel
theorem dX6_moves_68 : decode cX6_moves 68 = .ok (.invokevirtual 189, 3) := by decide +kernel
theorem dX6_moves_71 : decode cX6_moves 71 = .ok (.ifCond .eq 4, 3) := by decide +kernel
theorem dX6_moves_74 : decode cX6_moves 74 = .ok (.return_, 1) := by decide +kernel
theorem dX6_moves_75 : decode cX6_moves 75 = .ok (.aload_n 0, 1) := by decide +kernel
theorem dX6_moves_76 : decode cX6_moves 76 = .ok (.getfield 83, 3) := by decide +kernel
theorem dX6_moves_79 : decode cX6_moves 79 = .ok (.aload_n 0, 1) := by decide +kernel
theorem dX6_moves_80 : decode cX6_moves 80 = .ok (.getfield 183, 3) := by decide +kernel
theorem dX6_moves_83 : decode cX6_moves 83 = .ok (.iload_n 3, 1) := by decide +kernel
theorem dX6_moves_84 : decode cX6_moves 84 = .ok (.iastore, 1) := by decide +kernel
theorem dX6_moves_85 : decode cX6_moves 85 = .ok (.aload_n 0, 1) := by decide +kernel
theorem dX6_moves_86 : decode cX6_moves 86 = .ok (.getfield 86, 3) := by decide +kernel
theorem dX6_moves_89 : decode cX6_moves 89 = .ok (.aload_n 0, 1) := by decide +kernel
theorem dX6_moves_90 : decode cX6_moves 90 = .ok (.getfield 183, 3) := by decide +kernel
theorem dX6_moves_93 : decode cX6_moves 93 = .ok (.iload 4, 2) := by decide +kernel
theorem dX6_moves_95 : decode cX6_moves 95 = .ok (.iastore, 1) := by decide +kernel
theorem dX6_moves_96 : decode cX6_moves 96 = .ok (.aload_n 0, 1) := by decide +kernel
theorem dX6_moves_97 : decode cX6_moves 97 = .ok (.dup, 1) := by decide +kernel
theorem dX6_moves_98 : decode cX6_moves 98 = .ok (.getfield 183, 3) := by decide +kernel
theorem dX6_moves_101 : decode cX6_moves 101 = .ok (.iconst 1, 1) := by decide +kernel
theorem dX6_moves_102 : decode cX6_moves 102 = .ok (.iadd, 1) := by decide +kernel
theorem dX6_moves_103 : decode cX6_moves 103 = .ok (.putfield 183, 3) := by decide +kernel
theorem dX6_moves_106 : decode cX6_moves 106 = .ok (.aload_n 0, 1) := by decide +kernel
theorem dX6_moves_107 : decode cX6_moves 107 = .ok (.getfield 68, 3) := by decide +kernel
theorem dX6_moves_110 : decode cX6_moves 110 = .ok (.iload_n 1, 1) := by decide +kernel
theorem dX6_moves_111 : decode cX6_moves 111 = .ok (.aload_n 0, 1) := by decide +kernel
theorem dX6_moves_112 : decode cX6_moves 112 = .ok (.getfield 180, 3) := by decide +kernel
theorem dX6_moves_115 : decode cX6_moves 115 = .ok (.aload_n 0, 1) := by decide +kernel
theorem dX6_moves_116 : decode cX6_moves 116 = .ok (.getfield 59, 3) := by decide +kernel
theorem dX6_moves_119 : decode cX6_moves 119 = .ok (.iload_n 1, 1) := by decide +kernel
theorem dX6_moves_120 : decode cX6_moves 120 = .ok (.iaload, 1) := by decide +kernel
theorem dX6_moves_121 : decode cX6_moves 121 = .ok (.ifCond .eq 10, 3) := by decide +kernel
theorem dX6_moves_124 : decode cX6_moves 124 = .ok (.iload_n 2, 1) := by decide +kernel
theorem dX6_moves_125 : decode cX6_moves 125 = .ok (.sipush 1000, 3) := by decide +kernel
theorem dX6_moves_128 : decode cX6_moves 128 = .ok (.if_icmp .ne 7, 3) := by decide +kernel
theorem dX6_moves_131 : decode cX6_moves 131 = .ok (.iconst 1, 1) := by decide +kernel
theorem dX6_moves_132 : decode cX6_moves 132 = .ok (.goto 18, 3) := by decide +kernel
theorem dX6_moves_135 : decode cX6_moves 135 = .ok (.aload_n 0, 1) := by decide +kernel
theorem dX6_moves_136 : decode cX6_moves 136 = .ok (.aload_n 0, 1) := by decide +kernel
theorem dX6_moves_137 : decode cX6_moves 137 = .ok (.getfield 62, 3) := by decide +kernel
theorem dX6_moves_140 : decode cX6_moves 140 = .ok (.iload_n 1, 1) := by decide +kernel
theorem dX6_moves_141 : decode cX6_moves 141 = .ok (.iaload, 1) := by decide +kernel
theorem dX6_moves_142 : decode cX6_moves 142 = .ok (.iload_n 2, 1) := by decide +kernel
theorem dX6_moves_143 : decode cX6_moves 143 = .ok (.aload_n 0, 1) := by decide +kernel
theorem dX6_moves_144 : decode cX6_moves 144 = .ok (.getfield 180, 3) := by decide +kernel
theorem dX6_moves_147 : decode cX6_moves 147 = .ok (.invokevirtual 160, 3) := by decide +kernel
theorem dX6_moves_150 : decode cX6_moves 150 = .ok (.iadd, 1) := by decide +kernel
theorem dX6_moves_151 : decode cX6_moves 151 = .ok (.iastore, 1) := by decide +kernel
theorem dX6_moves_152 : decode cX6_moves 152 = .ok (.aload_n 0, 1) := by decide +kernel
theorem dX6_moves_153 : decode cX6_moves 153 = .ok (.getfield 65, 3) := by decide +kernel
theorem dX6_moves_156 : decode cX6_moves 156 = .ok (.iload_n 1, 1) := by decide +kernel
theorem dX6_moves_157 : decode cX6_moves 157 = .ok (.iload_n 2, 1) := by decide +kernel
theorem dX6_moves_158 : decode cX6_moves 158 = .ok (.iastore, 1) := by decide +kernel
theorem dX6_moves_159 : decode cX6_moves 159 = .ok (.aload_n 0, 1) := by decide +kernel
theorem dX6_moves_160 : decode cX6_moves 160 = .ok (.getfield 59, 3) := by decide +kernel
theorem dX6_moves_163 : decode cX6_moves 163 = .ok (.iload_n 1, 1) := by decide +kernel
theorem dX6_moves_164 : decode cX6_moves 164 = .ok (.iconst 2, 1) := by decide +kernel
theorem dX6_moves_165 : decode cX6_moves 165 = .ok (.iastore, 1) := by decide +kernel
theorem dX6_moves_166 : decode cX6_moves 166 = .ok (.aload_n 0, 1) := by decide +kernel
theorem dX6_moves_167 : decode cX6_moves 167 = .ok (.getfield 71, 3) := by decide +kernel
theorem dX6_moves_170 : decode cX6_moves 170 = .ok (.iload_n 1, 1) := by decide +kernel
theorem dX6_moves_171 : decode cX6_moves 171 = .ok (.dup2, 1) := by decide +kernel
theorem dX6_moves_172 : decode cX6_moves 172 = .ok (.iaload, 1) := by decide +kernel
theorem dX6_moves_173 : decode cX6_moves 173 = .ok (.iconst 1, 1) := by decide +kernel
theorem dX6_moves_174 : decode cX6_moves 174 = .ok (.iadd, 1) := by decide +kernel
theorem dX6_moves_175 : decode cX6_moves 175 = .ok (.iastore, 1) := by decide +kernel
theorem dX6_moves_176 : decode cX6_moves 176 = .ok (.return_, 1) := by decide +kernel
theorem dX6_handsOut_0 : decode cX6_handsOut 0 = .ok (.iconst 0, 1) := by decide +kernel
theorem dX6_handsOut_1 : decode cX6_handsOut 1 = .ok (.istore_n 1, 1) := by decide +kernel
theorem dX6_handsOut_2 : decode cX6_handsOut 2 = .ok (.iload_n 1, 1) := by decide +kernel
theorem dX6_handsOut_3 : decode cX6_handsOut 3 = .ok (.aload_n 0, 1) := by decide +kernel
theorem dX6_handsOut_4 : decode cX6_handsOut 4 = .ok (.getfield 104, 3) := by decide +kernel
theorem dX6_handsOut_7 : decode cX6_handsOut 7 = .ok (.if_icmp .ge 121, 3) := by decide +kernel
theorem dX6_handsOut_10 : decode cX6_handsOut 10 = .ok (.aload_n 0, 1) := by decide +kernel
theorem dX6_handsOut_11 : decode cX6_handsOut 11 = .ok (.getfield 59, 3) := by decide +kernel
theorem dX6_handsOut_14 : decode cX6_handsOut 14 = .ok (.iload_n 1, 1) := by decide +kernel
theorem dX6_handsOut_15 : decode cX6_handsOut 15 = .ok (.iaload, 1) := by decide +kernel
theorem dX6_handsOut_16 : decode cX6_handsOut 16 = .ok (.iconst 3, 1) := by decide +kernel
theorem dX6_handsOut_17 : decode cX6_handsOut 17 = .ok (.if_icmp .eq 6, 3) := by decide +kernel
theorem dX6_handsOut_20 : decode cX6_handsOut 20 = .ok (.goto 102, 3) := by decide +kernel
theorem dX6_handsOut_23 : decode cX6_handsOut 23 = .ok (.iconst 1, 1) := by decide +kernel
theorem dX6_handsOut_24 : decode cX6_handsOut 24 = .ok (.istore_n 2, 1) := by decide +kernel
theorem dX6_handsOut_25 : decode cX6_handsOut 25 = .ok (.iconst 0, 1) := by decide +kernel
theorem dX6_handsOut_26 : decode cX6_handsOut 26 = .ok (.istore_n 3, 1) := by decide +kernel
theorem dX6_handsOut_27 : decode cX6_handsOut 27 = .ok (.iload_n 3, 1) := by decide +kernel
theorem dX6_handsOut_28 : decode cX6_handsOut 28 = .ok (.iload_n 1, 1) := by decide +kernel
theorem dX6_handsOut_29 : decode cX6_handsOut 29 = .ok (.if_icmp .ge 69, 3) := by decide +kernel
theorem dX6_handsOut_32 : decode cX6_handsOut 32 = .ok (.iload_n 2, 1) := by decide +kernel
theorem dX6_handsOut_33 : decode cX6_handsOut 33 = .ok (.ifCond .eq 57, 3) := by decide +kernel
theorem dX6_handsOut_36 : decode cX6_handsOut 36 = .ok (.aload_n 0, 1) := by decide +kernel
theorem dX6_handsOut_37 : decode cX6_handsOut 37 = .ok (.getfield 53, 3) := by decide +kernel
theorem dX6_handsOut_40 : decode cX6_handsOut 40 = .ok (.iload_n 3, 1) := by decide +kernel
theorem dX6_handsOut_41 : decode cX6_handsOut 41 = .ok (.iaload, 1) := by decide +kernel
theorem dX6_handsOut_42 : decode cX6_handsOut 42 = .ok (.aload_n 0, 1) := by decide +kernel
theorem dX6_handsOut_43 : decode cX6_handsOut 43 = .ok (.getfield 53, 3) := by decide +kernel
theorem dX6_handsOut_46 : decode cX6_handsOut 46 = .ok (.iload_n 1, 1) := by decide +kernel
theorem dX6_handsOut_47 : decode cX6_handsOut 47 = .ok (.iaload, 1) := by decide +kernel
theorem dX6_handsOut_48 : decode cX6_handsOut 48 = .ok (.if_icmp .ne 38, 3) := by decide +kernel
theorem dX6_handsOut_51 : decode cX6_handsOut 51 = .ok (.aload_n 0, 1) := by decide +kernel
theorem dX6_handsOut_52 : decode cX6_handsOut 52 = .ok (.getfield 56, 3) := by decide +kernel
theorem dX6_handsOut_55 : decode cX6_handsOut 55 = .ok (.iload_n 3, 1) := by decide +kernel
theorem dX6_handsOut_56 : decode cX6_handsOut 56 = .ok (.iaload, 1) := by decide +kernel
theorem dX6_handsOut_57 : decode cX6_handsOut 57 = .ok (.aload_n 0, 1) := by decide +kernel
theorem dX6_handsOut_58 : decode cX6_handsOut 58 = .ok (.getfield 56, 3) := by decide +kernel
theorem dX6_handsOut_61 : decode cX6_handsOut 61 = .ok (.iload_n 1, 1) := by decide +kernel
theorem dX6_handsOut_62 : decode cX6_handsOut 62 = .ok (.iaload, 1) := by decide +kernel
theorem dX6_handsOut_63 : decode cX6_handsOut 63 = .ok (.if_icmp .ne 23, 3) := by decide +kernel
theorem dX6_handsOut_66 : decode cX6_handsOut 66 = .ok (.aload_n 0, 1) := by decide +kernel
theorem dX6_handsOut_67 : decode cX6_handsOut 67 = .ok (.getfield 59, 3) := by decide +kernel
theorem dX6_handsOut_70 : decode cX6_handsOut 70 = .ok (.iload_n 3, 1) := by decide +kernel
theorem dX6_handsOut_71 : decode cX6_handsOut 71 = .ok (.iaload, 1) := by decide +kernel
theorem dX6_handsOut_72 : decode cX6_handsOut 72 = .ok (.iconst 4, 1) := by decide +kernel
theorem dX6_handsOut_73 : decode cX6_handsOut 73 = .ok (.if_icmp .eq 13, 3) := by decide +kernel
theorem dX6_handsOut_76 : decode cX6_handsOut 76 = .ok (.aload_n 0, 1) := by decide +kernel
theorem dX6_handsOut_77 : decode cX6_handsOut 77 = .ok (.getfield 59, 3) := by decide +kernel
theorem dX6_handsOut_80 : decode cX6_handsOut 80 = .ok (.iload_n 3, 1) := by decide +kernel
theorem dX6_handsOut_81 : decode cX6_handsOut 81 = .ok (.iaload, 1) := by decide +kernel
theorem dX6_handsOut_82 : decode cX6_handsOut 82 = .ok (.iconst 5, 1) := by decide +kernel
theorem dX6_handsOut_83 : decode cX6_handsOut 83 = .ok (.if_icmp .ne 7, 3) := by decide +kernel
theorem dX6_handsOut_86 : decode cX6_handsOut 86 = .ok (.iconst 1, 1) := by decide +kernel
theorem dX6_handsOut_87 : decode cX6_handsOut 87 = .ok (.goto 4, 3) := by decide +kernel
theorem dX6_handsOut_90 : decode cX6_handsOut 90 = .ok (.iconst 0, 1) := by decide +kernel
theorem dX6_handsOut_91 : decode cX6_handsOut 91 = .ok (.istore_n 2, 1) := by decide +kernel
theorem dX6_handsOut_92 : decode cX6_handsOut 92 = .ok (.iinc 3 1, 3) := by decide +kernel
theorem dX6_handsOut_95 : decode cX6_handsOut 95 = .ok (.goto (-68), 3) := by decide +kernel
theorem dX6_handsOut_98 : decode cX6_handsOut 98 = .ok (.iload_n 2, 1) := by decide +kernel
theorem dX6_handsOut_99 : decode cX6_handsOut 99 = .ok (.ifCond .ne 6, 3) := by decide +kernel
theorem dX6_handsOut_102 : decode cX6_handsOut 102 = .ok (.goto 20, 3) := by decide +kernel
theorem dX6_handsOut_105 : decode cX6_handsOut 105 = .ok (.aload_n 0, 1) := by decide +kernel
theorem dX6_handsOut_106 : decode cX6_handsOut 106 = .ok (.getfield 59, 3) := by decide +kernel
theorem dX6_handsOut_109 : decode cX6_handsOut 109 = .ok (.iload_n 1, 1) := by decide +kernel
theorem dX6_handsOut_110 : decode cX6_handsOut 110 = .ok (.iconst 4, 1) := by decide +kernel
theorem dX6_handsOut_111 : decode cX6_handsOut 111 = .ok (.iastore, 1) := by decide +kernel
theorem dX6_handsOut_112 : decode cX6_handsOut 112 = .ok (.aload_n 0, 1) := by decide +kernel
theorem dX6_handsOut_113 : decode cX6_handsOut 113 = .ok (.getfield 80, 3) := by decide +kernel
theorem dX6_handsOut_116 : decode cX6_handsOut 116 = .ok (.iload_n 1, 1) := by decide +kernel
theorem dX6_handsOut_117 : decode cX6_handsOut 117 = .ok (.aload_n 0, 1) := by decide +kernel
theorem dX6_handsOut_118 : decode cX6_handsOut 118 = .ok (.getfield 180, 3) := by decide +kernel
theorem dX6_handsOut_121 : decode cX6_handsOut 121 = .ok (.iastore, 1) := by decide +kernel
theorem dX6_handsOut_122 : decode cX6_handsOut 122 = .ok (.iinc 1 1, 3) := by decide +kernel
theorem dX6_handsOut_125 : decode cX6_handsOut 125 = .ok (.goto (-123), 3) := by decide +kernel
theorem dX6_handsOut_128 : decode cX6_handsOut 128 = .ok (.return_, 1) := by decide +kernel
theorem dX6_steps_0 : decode cX6_steps 0 = .ok (.aload_n 0, 1) := by decide +kernel
theorem dX6_steps_1 : decode cX6_steps 1 = .ok (.iconst 0, 1) := by decide +kernel
theorem dX6_steps_2 : decode cX6_steps 2 = .ok (.putfield 89, 3) := by decide +kernel
theorem dX6_steps_5 : decode cX6_steps 5 = .ok (.aload_n 0, 1) := by decide +kernel
theorem dX6_steps_6 : decode cX6_steps 6 = .ok (.iload_n 1, 1) := by decide +kernel
theorem dX6_steps_7 : decode cX6_steps 7 = .ok (.iconst 0, 1) := by decide +kernel
theorem dX6_steps_8 : decode cX6_steps 8 = .ok (.bipush 100, 2) := by decide +kernel
theorem dX6_steps_10 : decode cX6_steps 10 = .ok (.invokestatic 96, 3) := by decide +kernel
theorem dX6_steps_13 : decode cX6_steps 13 = .ok (.ifCond .ne 7, 3) := by decide +kernel
theorem dX6_steps_16 : decode cX6_steps 16 = .ok (.iconst 1, 1) := by decide +kernel
theorem dX6_steps_17 : decode cX6_steps 17 = .ok (.goto 4, 3) := by decide +kernel
theorem dX6_steps_20 : decode cX6_steps 20 = .ok (.iconst 0, 1) := by decide +kernel
theorem dX6_steps_21 : decode cX6_steps 21 = .ok (.iconst 1, 1) := by decide +kernel
theorem dX6_steps_22 : decode cX6_steps 22 = .ok (.invokevirtual 107, 3) := by decide +kernel
theorem dX6_steps_25 : decode cX6_steps 25 = .ok (.ifCond .eq 5, 3) := by decide +kernel
theorem dX6_steps_28 : decode cX6_steps 28 = .ok (.iconst 0, 1) := by decide +kernel
theorem dX6_steps_29 : decode cX6_steps 29 = .ok (.ireturn, 1) := by decide +kernel
theorem dX6_steps_30 : decode cX6_steps 30 = .ok (.iconst 0, 1) := by decide +kernel
theorem dX6_steps_31 : decode cX6_steps 31 = .ok (.istore_n 2, 1) := by decide +kernel
theorem dX6_steps_32 : decode cX6_steps 32 = .ok (.iload_n 2, 1) := by decide +kernel
theorem dX6_steps_33 : decode cX6_steps 33 = .ok (.iload_n 1, 1) := by decide +kernel
theorem dX6_steps_34 : decode cX6_steps 34 = .ok (.if_icmp .ge 188, 3) := by decide +kernel
theorem dX6_steps_37 : decode cX6_steps 37 = .ok (.aload_n 0, 1) := by decide +kernel
theorem dX6_steps_38 : decode cX6_steps 38 = .ok (.iconst 0, 1) := by decide +kernel
theorem dX6_steps_39 : decode cX6_steps 39 = .ok (.putfield 183, 3) := by decide +kernel
theorem dX6_steps_42 : decode cX6_steps 42 = .ok (.iconst 0, 1) := by decide +kernel
theorem dX6_steps_43 : decode cX6_steps 43 = .ok (.istore_n 3, 1) := by decide +kernel
theorem dX6_steps_44 : decode cX6_steps 44 = .ok (.iload_n 3, 1) := by decide +kernel
theorem dX6_steps_45 : decode cX6_steps 45 = .ok (.aload_n 0, 1) := by decide +kernel
theorem dX6_steps_46 : decode cX6_steps 46 = .ok (.getfield 104, 3) := by decide +kernel
theorem dX6_steps_49 : decode cX6_steps 49 = .ok (.if_icmp .ge 33, 3) := by decide +kernel
theorem dX6_steps_52 : decode cX6_steps 52 = .ok (.aload_n 0, 1) := by decide +kernel
theorem dX6_steps_53 : decode cX6_steps 53 = .ok (.getfield 59, 3) := by decide +kernel
theorem dX6_steps_56 : decode cX6_steps 56 = .ok (.iload_n 3, 1) := by decide +kernel
theorem dX6_steps_57 : decode cX6_steps 57 = .ok (.iaload, 1) := by decide +kernel
theorem dX6_steps_58 : decode cX6_steps 58 = .ok (.ifCond .eq 13, 3) := by decide +kernel
theorem dX6_steps_61 : decode cX6_steps 61 = .ok (.aload_n 0, 1) := by decide +kernel
theorem dX6_steps_62 : decode cX6_steps 62 = .ok (.getfield 59, 3) := by decide +kernel
theorem dX6_steps_65 : decode cX6_steps 65 = .ok (.iload_n 3, 1) := by decide +kernel
theorem dX6_steps_66 : decode cX6_steps 66 = .ok (.iaload, 1) := by decide +kernel
theorem dX6_steps_67 : decode cX6_steps 67 = .ok (.iconst 1, 1) := by decide +kernel
theorem dX6_steps_68 : decode cX6_steps 68 = .ok (.if_icmp .ne 8, 3) := by decide +kernel
theorem dX6_steps_71 : decode cX6_steps 71 = .ok (.aload_n 0, 1) := by decide +kernel
theorem dX6_steps_72 : decode cX6_steps 72 = .ok (.iload_n 3, 1) := by decide +kernel
theorem dX6_steps_73 : decode cX6_steps 73 = .ok (.invokevirtual 193, 3) := by decide +kernel
theorem dX6_steps_76 : decode cX6_steps 76 = .ok (.iinc 3 1, 3) := by decide +kernel
theorem dX6_steps_79 : decode cX6_steps 79 = .ok (.goto (-35), 3) := by decide +kernel
theorem dX6_steps_82 : decode cX6_steps 82 = .ok (.aload_n 0, 1) := by decide +kernel
theorem dX6_steps_83 : decode cX6_steps 83 = .ok (.dup, 1) := by decide +kernel
theorem dX6_steps_84 : decode cX6_steps 84 = .ok (.getfield 180, 3) := by decide +kernel
theorem dX6_steps_87 : decode cX6_steps 87 = .ok (.iconst 1, 1) := by decide +kernel
theorem dX6_steps_88 : decode cX6_steps 88 = .ok (.iadd, 1) := by decide +kernel
theorem dX6_steps_89 : decode cX6_steps 89 = .ok (.putfield 180, 3) := by decide +kernel
theorem dX6_steps_92 : decode cX6_steps 92 = .ok (.iconst 0, 1) := by decide +kernel
theorem dX6_steps_93 : decode cX6_steps 93 = .ok (.istore_n 3, 1) := by decide +kernel
theorem dX6_steps_94 : decode cX6_steps 94 = .ok (.iload_n 3, 1) := by decide +kernel
theorem dX6_steps_95 : decode cX6_steps 95 = .ok (.aload_n 0, 1) := by decide +kernel
theorem dX6_steps_96 : decode cX6_steps 96 = .ok (.getfield 104, 3) := by decide +kernel
theorem dX6_steps_99 : decode cX6_steps 99 = .ok (.if_icmp .ge 113, 3) := by decide +kernel
theorem dX6_steps_102 : decode cX6_steps 102 = .ok (.aload_n 0, 1) := by decide +kernel
theorem dX6_steps_103 : decode cX6_steps 103 = .ok (.getfield 59, 3) := by decide +kernel
theorem dX6_steps_106 : decode cX6_steps 106 = .ok (.iload_n 3, 1) := by decide +kernel
theorem dX6_steps_107 : decode cX6_steps 107 = .ok (.iaload, 1) := by decide +kernel
theorem dX6_steps_108 : decode cX6_steps 108 = .ok (.iconst 2, 1) := by decide +kernel
theorem dX6_steps_109 : decode cX6_steps 109 = .ok (.if_icmp .ne 97, 3) := by decide +kernel
theorem dX6_steps_112 : decode cX6_steps 112 = .ok (.aload_n 0, 1) := by decide +kernel
theorem dX6_steps_113 : decode cX6_steps 113 = .ok (.getfield 68, 3) := by decide +kernel
theorem dX6_steps_116 : decode cX6_steps 116 = .ok (.iload_n 3, 1) := by decide +kernel
theorem dX6_steps_117 : decode cX6_steps 117 = .ok (.iaload, 1) := by decide +kernel
theorem dX6_steps_118 : decode cX6_steps 118 = .ok (.aload_n 0, 1) := by decide +kernel
theorem dX6_steps_119 : decode cX6_steps 119 = .ok (.getfield 180, 3) := by decide +kernel
theorem dX6_steps_122 : decode cX6_steps 122 = .ok (.if_icmp .eq 6, 3) := by decide +kernel
theorem dX6_steps_125 : decode cX6_steps 125 = .ok (.goto 81, 3) := by decide +kernel
theorem dX6_steps_128 : decode cX6_steps 128 = .ok (.aload_n 0, 1) := by decide +kernel
theorem dX6_steps_129 : decode cX6_steps 129 = .ok (.getfield 65, 3) := by decide +kernel
theorem dX6_steps_132 : decode cX6_steps 132 = .ok (.iload_n 3, 1) := by decide +kernel
theorem dX6_steps_133 : decode cX6_steps 133 = .ok (.iaload, 1) := by decide +kernel
theorem dX6_steps_134 : decode cX6_steps 134 = .ok (.sipush 1000, 3) := by decide +kernel
theorem dX6_steps_137 : decode cX6_steps 137 = .ok (.if_icmp .ne 7, 3) := by decide +kernel
theorem dX6_steps_140 : decode cX6_steps 140 = .ok (.iconst 1, 1) := by decide +kernel
theorem dX6_steps_141 : decode cX6_steps 141 = .ok (.goto 4, 3) := by decide +kernel
theorem dX6_steps_144 : decode cX6_steps 144 = .ok (.iconst 0, 1) := by decide +kernel
theorem dX6_steps_145 : decode cX6_steps 145 = .ok (.istore 4, 2) := by decide +kernel
theorem dX6_steps_147 : decode cX6_steps 147 = .ok (.aload_n 0, 1) := by decide +kernel
theorem dX6_steps_148 : decode cX6_steps 148 = .ok (.getfield 59, 3) := by decide +kernel
theorem dX6_steps_151 : decode cX6_steps 151 = .ok (.iload_n 3, 1) := by decide +kernel
theorem dX6_steps_152 : decode cX6_steps 152 = .ok (.iload 4, 2) := by decide +kernel
theorem dX6_steps_154 : decode cX6_steps 154 = .ok (.ifCond .eq 7, 3) := by decide +kernel
theorem dX6_steps_157 : decode cX6_steps 157 = .ok (.iconst 3, 1) := by decide +kernel
theorem dX6_steps_158 : decode cX6_steps 158 = .ok (.goto 4, 3) := by decide +kernel
theorem dX6_steps_161 : decode cX6_steps 161 = .ok (.iconst 1, 1) := by decide +kernel
theorem dX6_steps_162 : decode cX6_steps 162 = .ok (.iastore, 1) := by decide +kernel
theorem dX6_steps_163 : decode cX6_steps 163 = .ok (.aload_n 0, 1) := by decide +kernel
theorem dX6_steps_164 : decode cX6_steps 164 = .ok (.getfield 62, 3) := by decide +kernel
theorem dX6_steps_167 : decode cX6_steps 167 = .ok (.iload_n 3, 1) := by decide +kernel
theorem dX6_steps_168 : decode cX6_steps 168 = .ok (.iload 4, 2) := by decide +kernel
theorem dX6_steps_170 : decode cX6_steps 170 = .ok (.ifCond .eq 7, 3) := by decide +kernel
theorem dX6_steps_173 : decode cX6_steps 173 = .ok (.iconst (-1), 1) := by decide +kernel
theorem dX6_steps_174 : decode cX6_steps 174 = .ok (.goto 9, 3) := by decide +kernel
theorem dX6_steps_177 : decode cX6_steps 177 = .ok (.aload_n 0, 1) := by decide +kernel
theorem dX6_steps_178 : decode cX6_steps 178 = .ok (.getfield 65, 3) := by decide +kernel
theorem dX6_steps_181 : decode cX6_steps 181 = .ok (.iload_n 3, 1) := by decide +kernel
theorem dX6_steps_182 : decode cX6_steps 182 = .ok (.iaload, 1) := by decide +kernel
theorem dX6_steps_183 : decode cX6_steps 183 = .ok (.iastore, 1) := by decide +kernel
theorem dX6_steps_184 : decode cX6_steps 184 = .ok (.aload_n 0, 1) := by decide +kernel
theorem dX6_steps_185 : decode cX6_steps 185 = .ok (.getfield 65, 3) := by decide +kernel
theorem dX6_steps_188 : decode cX6_steps 188 = .ok (.iload_n 3, 1) := by decide +kernel
theorem dX6_steps_189 : decode cX6_steps 189 = .ok (.iconst (-1), 1) := by decide +kernel
theorem dX6_steps_190 : decode cX6_steps 190 = .ok (.iastore, 1) := by decide +kernel
theorem dX6_steps_191 : decode cX6_steps 191 = .ok (.iload 4, 2) := by decide +kernel
theorem dX6_steps_193 : decode cX6_steps 193 = .ok (.ifCond .eq 13, 3) := by decide +kernel
theorem dX6_steps_196 : decode cX6_steps 196 = .ok (.aload_n 0, 1) := by decide +kernel
theorem dX6_steps_197 : decode cX6_steps 197 = .ok (.getfield 77, 3) := by decide +kernel
theorem dX6_steps_200 : decode cX6_steps 200 = .ok (.iload_n 3, 1) := by decide +kernel
theorem dX6_steps_201 : decode cX6_steps 201 = .ok (.aload_n 0, 1) := by decide +kernel
theorem dX6_steps_202 : decode cX6_steps 202 = .ok (.getfield 180, 3) := by decide +kernel
theorem dX6_steps_205 : decode cX6_steps 205 = .ok (.iastore, 1) := by decide +kernel
theorem dX6_steps_206 : decode cX6_steps 206 = .ok (.iinc 3 1, 3) := by decide +kernel
theorem dX6_steps_209 : decode cX6_steps 209 = .ok (.goto (-115), 3) := by decide +kernel
theorem dX6_steps_212 : decode cX6_steps 212 = .ok (.aload_n 0, 1) := by decide +kernel
theorem dX6_steps_213 : decode cX6_steps 213 = .ok (.invokevirtual 147, 3) := by decide +kernel
theorem dX6_steps_216 : decode cX6_steps 216 = .ok (.iinc 2 1, 3) := by decide +kernel
theorem dX6_steps_219 : decode cX6_steps 219 = .ok (.goto (-187), 3) := by decide +kernel
theorem dX6_steps_222 : decode cX6_steps 222 = .ok (.aload_n 0, 1) := by decide +kernel
theorem dX6_steps_223 : decode cX6_steps 223 = .ok (.getfield 180, 3) := by decide +kernel
theorem dX6_steps_226 : decode cX6_steps 226 = .ok (.ireturn, 1) := by decide +kernel
theorem dX6_look_0 : decode cX6_look 0 = .ok (.aload_n 0, 1) := by decide +kernel
theorem dX6_look_1 : decode cX6_look 1 = .ok (.iconst 0, 1) := by decide +kernel
theorem dX6_look_2 : decode cX6_look 2 = .ok (.putfield 89, 3) := by decide +kernel
theorem dX6_look_5 : decode cX6_look 5 = .ok (.aload_n 0, 1) := by decide +kernel
theorem dX6_look_6 : decode cX6_look 6 = .ok (.iload_n 1, 1) := by decide +kernel
theorem dX6_look_7 : decode cX6_look 7 = .ok (.iconst 0, 1) := by decide +kernel
theorem dX6_look_8 : decode cX6_look 8 = .ok (.aload_n 0, 1) := by decide +kernel
theorem dX6_look_9 : decode cX6_look 9 = .ok (.getfield 104, 3) := by decide +kernel
theorem dX6_look_12 : decode cX6_look 12 = .ok (.iconst 1, 1) := by decide +kernel
theorem dX6_look_13 : decode cX6_look 13 = .ok (.isub, 1) := by decide +kernel
theorem dX6_look_14 : decode cX6_look 14 = .ok (.invokestatic 96, 3) := by decide +kernel
theorem dX6_look_17 : decode cX6_look 17 = .ok (.ifCond .ne 7, 3) := by decide +kernel
theorem dX6_look_20 : decode cX6_look 20 = .ok (.iconst 1, 1) := by decide +kernel
theorem dX6_look_21 : decode cX6_look 21 = .ok (.goto 4, 3) := by decide +kernel
theorem dX6_look_24 : decode cX6_look 24 = .ok (.iconst 0, 1) := by decide +kernel
theorem dX6_look_25 : decode cX6_look 25 = .ok (.iconst 1, 1) := by decide +kernel
theorem dX6_look_26 : decode cX6_look 26 = .ok (.invokevirtual 107, 3) := by decide +kernel
theorem dX6_look_29 : decode cX6_look 29 = .ok (.ifCond .eq 5, 3) := by decide +kernel
theorem dX6_look_32 : decode cX6_look 32 = .ok (.iconst 0, 1) := by decide +kernel
theorem dX6_look_33 : decode cX6_look 33 = .ok (.ireturn, 1) := by decide +kernel
theorem dX6_look_34 : decode cX6_look 34 = .ok (.iload_n 2, 1) := by decide +kernel
theorem dX6_look_35 : decode cX6_look 35 = .ok (.tableswitch 124 0 5 #[37, 44, 96, 103, 110, 117], 37) := by decide +kernel
theorem dX6_look_72 : decode cX6_look 72 = .ok (.aload_n 0, 1) := by decide +kernel
theorem dX6_look_73 : decode cX6_look 73 = .ok (.getfield 59, 3) := by decide +kernel
theorem dX6_look_76 : decode cX6_look 76 = .ok (.iload_n 1, 1) := by decide +kernel
theorem dX6_look_77 : decode cX6_look 77 = .ok (.iaload, 1) := by decide +kernel
theorem dX6_look_78 : decode cX6_look 78 = .ok (.ireturn, 1) := by decide +kernel
theorem dX6_look_79 : decode cX6_look 79 = .ok (.aload_n 0, 1) := by decide +kernel
theorem dX6_look_80 : decode cX6_look 80 = .ok (.getfield 59, 3) := by decide +kernel
theorem dX6_look_83 : decode cX6_look 83 = .ok (.iload_n 1, 1) := by decide +kernel
theorem dX6_look_84 : decode cX6_look 84 = .ok (.iaload, 1) := by decide +kernel
theorem dX6_look_85 : decode cX6_look 85 = .ok (.iconst 1, 1) := by decide +kernel
theorem dX6_look_86 : decode cX6_look 86 = .ok (.if_icmp .ne 12, 3) := by decide +kernel
theorem dX6_look_89 : decode cX6_look 89 = .ok (.aload_n 0, 1) := by decide +kernel
theorem dX6_look_90 : decode cX6_look 90 = .ok (.getfield 62, 3) := by decide +kernel
theorem dX6_look_93 : decode cX6_look 93 = .ok (.iload_n 1, 1) := by decide +kernel
theorem dX6_look_94 : decode cX6_look 94 = .ok (.iaload, 1) := by decide +kernel
theorem dX6_look_95 : decode cX6_look 95 = .ok (.goto 35, 3) := by decide +kernel
theorem dX6_look_98 : decode cX6_look 98 = .ok (.aload_n 0, 1) := by decide +kernel
theorem dX6_look_99 : decode cX6_look 99 = .ok (.getfield 59, 3) := by decide +kernel
theorem dX6_look_102 : decode cX6_look 102 = .ok (.iload_n 1, 1) := by decide +kernel
theorem dX6_look_103 : decode cX6_look 103 = .ok (.iaload, 1) := by decide +kernel
theorem dX6_look_104 : decode cX6_look 104 = .ok (.iconst 2, 1) := by decide +kernel
theorem dX6_look_105 : decode cX6_look 105 = .ok (.if_icmp .ne 24, 3) := by decide +kernel
theorem dX6_look_108 : decode cX6_look 108 = .ok (.aload_n 0, 1) := by decide +kernel
theorem dX6_look_109 : decode cX6_look 109 = .ok (.getfield 65, 3) := by decide +kernel
theorem dX6_look_112 : decode cX6_look 112 = .ok (.iload_n 1, 1) := by decide +kernel
theorem dX6_look_113 : decode cX6_look 113 = .ok (.iaload, 1) := by decide +kernel
theorem dX6_look_114 : decode cX6_look 114 = .ok (.sipush 1000, 3) := by decide +kernel
theorem dX6_look_117 : decode cX6_look 117 = .ok (.if_icmp .eq 12, 3) := by decide +kernel
theorem dX6_look_120 : decode cX6_look 120 = .ok (.aload_n 0, 1) := by decide +kernel
theorem dX6_look_121 : decode cX6_look 121 = .ok (.getfield 65, 3) := by decide +kernel
theorem dX6_look_124 : decode cX6_look 124 = .ok (.iload_n 1, 1) := by decide +kernel
theorem dX6_look_125 : decode cX6_look 125 = .ok (.iaload, 1) := by decide +kernel
theorem dX6_look_126 : decode cX6_look 126 = .ok (.goto 4, 3) := by decide +kernel
theorem dX6_look_129 : decode cX6_look 129 = .ok (.iconst (-1), 1) := by decide +kernel
theorem dX6_look_130 : decode cX6_look 130 = .ok (.ireturn, 1) := by decide +kernel
theorem dX6_look_131 : decode cX6_look 131 = .ok (.aload_n 0, 1) := by decide +kernel
theorem dX6_look_132 : decode cX6_look 132 = .ok (.getfield 71, 3) := by decide +kernel
theorem dX6_look_135 : decode cX6_look 135 = .ok (.iload_n 1, 1) := by decide +kernel
theorem dX6_look_136 : decode cX6_look 136 = .ok (.iaload, 1) := by decide +kernel
theorem dX6_look_137 : decode cX6_look 137 = .ok (.ireturn, 1) := by decide +kernel
theorem dX6_look_138 : decode cX6_look 138 = .ok (.aload_n 0, 1) := by decide +kernel
theorem dX6_look_139 : decode cX6_look 139 = .ok (.getfield 74, 3) := by decide +kernel
theorem dX6_look_142 : decode cX6_look 142 = .ok (.iload_n 1, 1) := by decide +kernel
theorem dX6_look_143 : decode cX6_look 143 = .ok (.iaload, 1) := by decide +kernel
theorem dX6_look_144 : decode cX6_look 144 = .ok (.ireturn, 1) := by decide +kernel
theorem dX6_look_145 : decode cX6_look 145 = .ok (.aload_n 0, 1) := by decide +kernel
theorem dX6_look_146 : decode cX6_look 146 = .ok (.getfield 77, 3) := by decide +kernel
theorem dX6_look_149 : decode cX6_look 149 = .ok (.iload_n 1, 1) := by decide +kernel
theorem dX6_look_150 : decode cX6_look 150 = .ok (.iaload, 1) := by decide +kernel
theorem dX6_look_151 : decode cX6_look 151 = .ok (.ireturn, 1) := by decide +kernel
theorem dX6_look_152 : decode cX6_look 152 = .ok (.aload_n 0, 1) := by decide +kernel
theorem dX6_look_153 : decode cX6_look 153 = .ok (.getfield 80, 3) := by decide +kernel
theorem dX6_look_156 : decode cX6_look 156 = .ok (.iload_n 1, 1) := by decide +kernel
theorem dX6_look_157 : decode cX6_look 157 = .ok (.iaload, 1) := by decide +kernel
theorem dX6_look_158 : decode cX6_look 158 = .ok (.ireturn, 1) := by decide +kernel
theorem dX6_look_159 : decode cX6_look 159 = .ok (.aload_n 0, 1) := by decide +kernel
theorem dX6_look_160 : decode cX6_look 160 = .ok (.iconst 2, 1) := by decide +kernel
theorem dX6_look_161 : decode cX6_look 161 = .ok (.putfield 89, 3) := by decide +kernel
theorem dX6_look_164 : decode cX6_look 164 = .ok (.iconst 0, 1) := by decide +kernel
theorem dX6_look_165 : decode cX6_look 165 = .ok (.ireturn, 1) := by decide +kernel
theorem dX6_count_0 : decode cX6_count 0 = .ok (.aload_n 0, 1) := by decide +kernel
theorem dX6_count_1 : decode cX6_count 1 = .ok (.iconst 0, 1) := by decide +kernel
theorem dX6_count_2 : decode cX6_count 2 = .ok (.putfield 89, 3) := by decide +kernel
theorem dX6_count_5 : decode cX6_count 5 = .ok (.iconst 0, 1) := by decide +kernel
theorem dX6_count_6 : decode cX6_count 6 = .ok (.istore_n 2, 1) := by decide +kernel
theorem dX6_count_7 : decode cX6_count 7 = .ok (.iload_n 1, 1) := by decide +kernel
theorem dX6_count_8 : decode cX6_count 8 = .ok (.tableswitch 213 0 8 #[52, 57, 62, 67, 102, 107, 112, 112, 158], 52) := by decide +kernel
theorem dX6_count_60 : decode cX6_count 60 = .ok (.aload_n 0, 1) := by decide +kernel
theorem dX6_count_61 : decode cX6_count 61 = .ok (.getfield 180, 3) := by decide +kernel
theorem dX6_count_64 : decode cX6_count 64 = .ok (.ireturn, 1) := by decide +kernel
theorem dX6_count_65 : decode cX6_count 65 = .ok (.aload_n 0, 1) := by decide +kernel
theorem dX6_count_66 : decode cX6_count 66 = .ok (.getfield 111, 3) := by decide +kernel
theorem dX6_count_69 : decode cX6_count 69 = .ok (.ireturn, 1) := by decide +kernel
theorem dX6_count_70 : decode cX6_count 70 = .ok (.aload_n 0, 1) := by decide +kernel
theorem dX6_count_71 : decode cX6_count 71 = .ok (.getfield 93, 3) := by decide +kernel
theorem dX6_count_74 : decode cX6_count 74 = .ok (.ireturn, 1) := by decide +kernel
theorem dX6_count_75 : decode cX6_count 75 = .ok (.iconst 0, 1) := by decide +kernel
theorem dX6_count_76 : decode cX6_count 76 = .ok (.istore_n 3, 1) := by decide +kernel
theorem dX6_count_77 : decode cX6_count 77 = .ok (.iload_n 3, 1) := by decide +kernel
theorem dX6_count_78 : decode cX6_count 78 = .ok (.aload_n 0, 1) := by decide +kernel
theorem dX6_count_79 : decode cX6_count 79 = .ok (.getfield 93, 3) := by decide +kernel
theorem dX6_count_82 : decode cX6_count 82 = .ok (.if_icmp .ge 26, 3) := by decide +kernel
theorem dX6_count_85 : decode cX6_count 85 = .ok (.iload_n 2, 1) := by decide +kernel
theorem dX6_count_86 : decode cX6_count 86 = .ok (.aload_n 0, 1) := by decide +kernel
theorem dX6_count_87 : decode cX6_count 87 = .ok (.getfield 25, 3) := by decide +kernel
theorem dX6_count_90 : decode cX6_count 90 = .ok (.iload_n 3, 1) := by decide +kernel
theorem dX6_count_91 : decode cX6_count 91 = .ok (.baload, 1) := by decide +kernel
theorem dX6_count_92 : decode cX6_count 92 = .ok (.ifCond .eq 7, 3) := by decide +kernel
theorem dX6_count_95 : decode cX6_count 95 = .ok (.iconst 1, 1) := by decide +kernel
theorem dX6_count_96 : decode cX6_count 96 = .ok (.goto 4, 3) := by decide +kernel
theorem dX6_count_99 : decode cX6_count 99 = .ok (.iconst 0, 1) := by decide +kernel
theorem dX6_count_100 : decode cX6_count 100 = .ok (.iadd, 1) := by decide +kernel
theorem dX6_count_101 : decode cX6_count 101 = .ok (.istore_n 2, 1) := by decide +kernel
theorem dX6_count_102 : decode cX6_count 102 = .ok (.iinc 3 1, 3) := by decide +kernel
theorem dX6_count_105 : decode cX6_count 105 = .ok (.goto (-28), 3) := by decide +kernel
theorem dX6_count_108 : decode cX6_count 108 = .ok (.iload_n 2, 1) := by decide +kernel
theorem dX6_count_109 : decode cX6_count 109 = .ok (.ireturn, 1) := by decide +kernel
theorem dX6_count_110 : decode cX6_count 110 = .ok (.aload_n 0, 1) := by decide +kernel
theorem dX6_count_111 : decode cX6_count 111 = .ok (.getfield 100, 3) := by decide +kernel
theorem dX6_count_114 : decode cX6_count 114 = .ok (.ireturn, 1) := by decide +kernel
theorem dX6_count_115 : decode cX6_count 115 = .ok (.aload_n 0, 1) := by decide +kernel
theorem dX6_count_116 : decode cX6_count 116 = .ok (.getfield 104, 3) := by decide +kernel
theorem dX6_count_119 : decode cX6_count 119 = .ok (.ireturn, 1) := by decide +kernel
theorem dX6_count_120 : decode cX6_count 120 = .ok (.iconst 0, 1) := by decide +kernel
theorem dX6_count_121 : decode cX6_count 121 = .ok (.istore_n 3, 1) := by decide +kernel
theorem dX6_count_122 : decode cX6_count 122 = .ok (.iload_n 3, 1) := by decide +kernel
theorem dX6_count_123 : decode cX6_count 123 = .ok (.aload_n 0, 1) := by decide +kernel
theorem dX6_count_124 : decode cX6_count 124 = .ok (.getfield 104, 3) := by decide +kernel
theorem dX6_count_127 : decode cX6_count 127 = .ok (.if_icmp .ge 37, 3) := by decide +kernel
theorem dX6_count_130 : decode cX6_count 130 = .ok (.iload_n 2, 1) := by decide +kernel
theorem dX6_count_131 : decode cX6_count 131 = .ok (.aload_n 0, 1) := by decide +kernel
theorem dX6_count_132 : decode cX6_count 132 = .ok (.getfield 59, 3) := by decide +kernel
theorem dX6_count_135 : decode cX6_count 135 = .ok (.iload_n 3, 1) := by decide +kernel
theorem dX6_count_136 : decode cX6_count 136 = .ok (.iaload, 1) := by decide +kernel
theorem dX6_count_137 : decode cX6_count 137 = .ok (.iload_n 1, 1) := by decide +kernel
theorem dX6_count_138 : decode cX6_count 138 = .ok (.bipush 6, 2) := by decide +kernel
theorem dX6_count_140 : decode cX6_count 140 = .ok (.if_icmp .ne 7, 3) := by decide +kernel
theorem dX6_count_143 : decode cX6_count 143 = .ok (.iconst 4, 1) := by decide +kernel
theorem dX6_count_144 : decode cX6_count 144 = .ok (.goto 4, 3) := by decide +kernel
theorem dX6_count_147 : decode cX6_count 147 = .ok (.iconst 5, 1) := by decide +kernel
theorem dX6_count_148 : decode cX6_count 148 = .ok (.if_icmp .ne 7, 3) := by decide +kernel
theorem dX6_count_151 : decode cX6_count 151 = .ok (.iconst 1, 1) := by decide +kernel
theorem dX6_count_152 : decode cX6_count 152 = .ok (.goto 4, 3) := by decide +kernel
theorem dX6_count_155 : decode cX6_count 155 = .ok (.iconst 0, 1) := by decide +kernel
theorem dX6_count_156 : decode cX6_count 156 = .ok (.iadd, 1) := by decide +kernel
theorem dX6_count_157 : decode cX6_count 157 = .ok (.istore_n 2, 1) := by decide +kernel
theorem dX6_count_158 : decode cX6_count 158 = .ok (.iinc 3 1, 3) := by decide +kernel
theorem dX6_count_161 : decode cX6_count 161 = .ok (.goto (-39), 3) := by decide +kernel
theorem dX6_count_164 : decode cX6_count 164 = .ok (.iload_n 2, 1) := by decide +kernel
theorem dX6_count_165 : decode cX6_count 165 = .ok (.ireturn, 1) := by decide +kernel
theorem dX6_count_166 : decode cX6_count 166 = .ok (.iconst 0, 1) := by decide +kernel
theorem dX6_count_167 : decode cX6_count 167 = .ok (.istore_n 3, 1) := by decide +kernel
theorem dX6_count_168 : decode cX6_count 168 = .ok (.iload_n 3, 1) := by decide +kernel
theorem dX6_count_169 : decode cX6_count 169 = .ok (.aload_n 0, 1) := by decide +kernel
theorem dX6_count_170 : decode cX6_count 170 = .ok (.getfield 93, 3) := by decide +kernel
theorem dX6_count_173 : decode cX6_count 173 = .ok (.if_icmp .ge 46, 3) := by decide +kernel
theorem dX6_count_176 : decode cX6_count 176 = .ok (.iconst 0, 1) := by decide +kernel
theorem dX6_count_177 : decode cX6_count 177 = .ok (.istore 4, 2) := by decide +kernel
theorem dX6_count_179 : decode cX6_count 179 = .ok (.iload 4, 2) := by decide +kernel
theorem dX6_count_181 : decode cX6_count 181 = .ok (.iload_n 3, 1) := by decide +kernel
theorem dX6_count_182 : decode cX6_count 182 = .ok (.if_icmp .ge 31, 3) := by decide +kernel
theorem dX6_count_185 : decode cX6_count 185 = .ok (.iload_n 2, 1) := by decide +kernel
theorem dX6_count_186 : decode cX6_count 186 = .ok (.aload_n 0, 1) := by decide +kernel
theorem dX6_count_187 : decode cX6_count 187 = .ok (.iload_n 3, 1) := by decide +kernel
theorem dX6_count_188 : decode cX6_count 188 = .ok (.iload 4, 2) := by decide +kernel
theorem dX6_count_190 : decode cX6_count 190 = .ok (.aload_n 0, 1) := by decide +kernel
theorem dX6_count_191 : decode cX6_count 191 = .ok (.getfield 180, 3) := by decide +kernel
theorem dX6_count_194 : decode cX6_count 194 = .ok (.invokevirtual 140, 3) := by decide +kernel
theorem dX6_count_197 : decode cX6_count 197 = .ok (.ifCond .le 7, 3) := by decide +kernel
theorem dX6_count_200 : decode cX6_count 200 = .ok (.iconst 1, 1) := by decide +kernel
theorem dX6_count_201 : decode cX6_count 201 = .ok (.goto 4, 3) := by decide +kernel
theorem dX6_count_204 : decode cX6_count 204 = .ok (.iconst 0, 1) := by decide +kernel
theorem dX6_count_205 : decode cX6_count 205 = .ok (.iadd, 1) := by decide +kernel
theorem dX6_count_206 : decode cX6_count 206 = .ok (.istore_n 2, 1) := by decide +kernel
theorem dX6_count_207 : decode cX6_count 207 = .ok (.iinc 4 1, 3) := by decide +kernel
theorem dX6_count_210 : decode cX6_count 210 = .ok (.goto (-31), 3) := by decide +kernel
theorem dX6_count_213 : decode cX6_count 213 = .ok (.iinc 3 1, 3) := by decide +kernel
theorem dX6_count_216 : decode cX6_count 216 = .ok (.goto (-48), 3) := by decide +kernel
theorem dX6_count_219 : decode cX6_count 219 = .ok (.iload_n 2, 1) := by decide +kernel
theorem dX6_count_220 : decode cX6_count 220 = .ok (.ireturn, 1) := by decide +kernel
theorem dX6_count_221 : decode cX6_count 221 = .ok (.iconst (-1), 1) := by decide +kernel
theorem dX6_count_222 : decode cX6_count 222 = .ok (.ireturn, 1) := by decide +kernel
