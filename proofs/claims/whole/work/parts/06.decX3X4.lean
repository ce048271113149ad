theorem dX3_init_0 : decode cX3_init 0 = .ok (.aload_n 0, 1) := by decide +kernel
theorem dX3_init_1 : decode cX3_init 1 = .ok (.invokespecial 3, 3) := by decide +kernel
theorem dX3_init_4 : decode cX3_init 4 = .ok (.aload_n 0, 1) := by decide +kernel
theorem dX3_init_5 : decode cX3_init 5 = .ok (.bipush 56, 2) := by decide +kernel
theorem dX3_init_7 : decode cX3_init 7 = .ok (.newarray .boolean, 2) := by decide +kernel
theorem dX3_init_9 : decode cX3_init 9 = .ok (.putfield 9, 3) := by decide +kernel
theorem dX3_init_12 : decode cX3_init 12 = .ok (.aload_n 0, 1) := by decide +kernel
theorem dX3_init_13 : decode cX3_init 13 = .ok (.bipush 7, 2) := by decide +kernel
theorem dX3_init_15 : decode cX3_init 15 = .ok (.newarray .int, 2) := by decide +kernel
theorem dX3_init_17 : decode cX3_init 17 = .ok (.putfield 15, 3) := by decide +kernel
theorem dX3_init_20 : decode cX3_init 20 = .ok (.aload_n 0, 1) := by decide +kernel
theorem dX3_init_21 : decode cX3_init 21 = .ok (.bipush 56, 2) := by decide +kernel
theorem dX3_init_23 : decode cX3_init 23 = .ok (.newarray .int, 2) := by decide +kernel
theorem dX3_init_25 : decode cX3_init 25 = .ok (.putfield 19, 3) := by decide +kernel
theorem dX3_init_28 : decode cX3_init 28 = .ok (.aload_n 0, 1) := by decide +kernel
theorem dX3_init_29 : decode cX3_init 29 = .ok (.bipush 56, 2) := by decide +kernel
theorem dX3_init_31 : decode cX3_init 31 = .ok (.newarray .int, 2) := by decide +kernel
theorem dX3_init_33 : decode cX3_init 33 = .ok (.putfield 22, 3) := by decide +kernel
theorem dX3_init_36 : decode cX3_init 36 = .ok (.aload_n 0, 1) := by decide +kernel
theorem dX3_init_37 : decode cX3_init 37 = .ok (.bipush 56, 2) := by decide +kernel
theorem dX3_init_39 : decode cX3_init 39 = .ok (.newarray .int, 2) := by decide +kernel
theorem dX3_init_41 : decode cX3_init 41 = .ok (.putfield 25, 3) := by decide +kernel
theorem dX3_init_44 : decode cX3_init 44 = .ok (.aload_n 0, 1) := by decide +kernel
theorem dX3_init_45 : decode cX3_init 45 = .ok (.bipush 56, 2) := by decide +kernel
theorem dX3_init_47 : decode cX3_init 47 = .ok (.newarray .int, 2) := by decide +kernel
theorem dX3_init_49 : decode cX3_init 49 = .ok (.putfield 28, 3) := by decide +kernel
theorem dX3_init_52 : decode cX3_init 52 = .ok (.aload_n 0, 1) := by decide +kernel
theorem dX3_init_53 : decode cX3_init 53 = .ok (.sipush 2688, 3) := by decide +kernel
theorem dX3_init_56 : decode cX3_init 56 = .ok (.newarray .int, 2) := by decide +kernel
theorem dX3_init_58 : decode cX3_init 58 = .ok (.putfield 31, 3) := by decide +kernel
theorem dX3_init_61 : decode cX3_init 61 = .ok (.aload_n 0, 1) := by decide +kernel
theorem dX3_init_62 : decode cX3_init 62 = .ok (.sipush 2688, 3) := by decide +kernel
theorem dX3_init_65 : decode cX3_init 65 = .ok (.newarray .int, 2) := by decide +kernel
theorem dX3_init_67 : decode cX3_init 67 = .ok (.putfield 34, 3) := by decide +kernel
theorem dX3_init_70 : decode cX3_init 70 = .ok (.return_, 1) := by decide +kernel
theorem dX3_addPlane_0 : decode cX3_addPlane 0 = .ok (.aload_n 0, 1) := by decide +kernel
theorem dX3_addPlane_1 : decode cX3_addPlane 1 = .ok (.getfield 37, 3) := by decide +kernel
theorem dX3_addPlane_4 : decode cX3_addPlane 4 = .ok (.istore 4, 2) := by decide +kernel
theorem dX3_addPlane_6 : decode cX3_addPlane 6 = .ok (.aload_n 0, 1) := by decide +kernel
theorem dX3_addPlane_7 : decode cX3_addPlane 7 = .ok (.getfield 41, 3) := by decide +kernel
theorem dX3_addPlane_10 : decode cX3_addPlane 10 = .ok (.istore 5, 2) := by decide +kernel
theorem dX3_addPlane_12 : decode cX3_addPlane 12 = .ok (.iconst 0, 1) := by decide +kernel
theorem dX3_addPlane_13 : decode cX3_addPlane 13 = .ok (.istore 6, 2) := by decide +kernel
theorem dX3_addPlane_15 : decode cX3_addPlane 15 = .ok (.iload 6, 2) := by decide +kernel
theorem dX3_addPlane_17 : decode cX3_addPlane 17 = .ok (.iload_n 1, 1) := by decide +kernel
theorem dX3_addPlane_18 : decode cX3_addPlane 18 = .ok (.if_icmp .ge 38, 3) := by decide +kernel
theorem dX3_addPlane_21 : decode cX3_addPlane 21 = .ok (.aload_n 0, 1) := by decide +kernel
theorem dX3_addPlane_22 : decode cX3_addPlane 22 = .ok (.iload 5, 2) := by decide +kernel
theorem dX3_addPlane_24 : decode cX3_addPlane 24 = .ok (.iload 6, 2) := by decide +kernel
theorem dX3_addPlane_26 : decode cX3_addPlane 26 = .ok (.iadd, 1) := by decide +kernel
theorem dX3_addPlane_27 : decode cX3_addPlane 27 = .ok (.iconst 4, 1) := by decide +kernel
theorem dX3_addPlane_28 : decode cX3_addPlane 28 = .ok (.iload 6, 2) := by decide +kernel
theorem dX3_addPlane_30 : decode cX3_addPlane 30 = .ok (.imul, 1) := by decide +kernel
theorem dX3_addPlane_31 : decode cX3_addPlane 31 = .ok (.iload_n 2, 1) := by decide +kernel
theorem dX3_addPlane_32 : decode cX3_addPlane 32 = .ok (.iadd, 1) := by decide +kernel
theorem dX3_addPlane_33 : decode cX3_addPlane 33 = .ok (.iload 4, 2) := by decide +kernel
theorem dX3_addPlane_35 : decode cX3_addPlane 35 = .ok (.iconst 2, 1) := by decide +kernel
theorem dX3_addPlane_36 : decode cX3_addPlane 36 = .ok (.invokevirtual 44, 3) := by decide +kernel
theorem dX3_addPlane_39 : decode cX3_addPlane 39 = .ok (.aload_n 0, 1) := by decide +kernel
theorem dX3_addPlane_40 : decode cX3_addPlane 40 = .ok (.getfield 25, 3) := by decide +kernel
theorem dX3_addPlane_43 : decode cX3_addPlane 43 = .ok (.iload 5, 2) := by decide +kernel
theorem dX3_addPlane_45 : decode cX3_addPlane 45 = .ok (.iload 6, 2) := by decide +kernel
theorem dX3_addPlane_47 : decode cX3_addPlane 47 = .ok (.iadd, 1) := by decide +kernel
theorem dX3_addPlane_48 : decode cX3_addPlane 48 = .ok (.iload_n 3, 1) := by decide +kernel
theorem dX3_addPlane_49 : decode cX3_addPlane 49 = .ok (.iastore, 1) := by decide +kernel
theorem dX3_addPlane_50 : decode cX3_addPlane 50 = .ok (.iinc 6 1, 3) := by decide +kernel
theorem dX3_addPlane_53 : decode cX3_addPlane 53 = .ok (.goto (-38), 3) := by decide +kernel
theorem dX3_addPlane_56 : decode cX3_addPlane 56 = .ok (.aload_n 0, 1) := by decide +kernel
theorem dX3_addPlane_57 : decode cX3_addPlane 57 = .ok (.iload 4, 2) := by decide +kernel
theorem dX3_addPlane_59 : decode cX3_addPlane 59 = .ok (.iconst 1, 1) := by decide +kernel
theorem dX3_addPlane_60 : decode cX3_addPlane 60 = .ok (.iadd, 1) := by decide +kernel
theorem dX3_addPlane_61 : decode cX3_addPlane 61 = .ok (.putfield 37, 3) := by decide +kernel
theorem dX3_addPlane_64 : decode cX3_addPlane 64 = .ok (.aload_n 0, 1) := by decide +kernel
theorem dX3_addPlane_65 : decode cX3_addPlane 65 = .ok (.iload 5, 2) := by decide +kernel
theorem dX3_addPlane_67 : decode cX3_addPlane 67 = .ok (.iload_n 1, 1) := by decide +kernel
theorem dX3_addPlane_68 : decode cX3_addPlane 68 = .ok (.iadd, 1) := by decide +kernel
theorem dX3_addPlane_69 : decode cX3_addPlane 69 = .ok (.putfield 41, 3) := by decide +kernel
theorem dX3_addPlane_72 : decode cX3_addPlane 72 = .ok (.aload_n 0, 1) := by decide +kernel
theorem dX3_addPlane_73 : decode cX3_addPlane 73 = .ok (.getfield 37, 3) := by decide +kernel
theorem dX3_addPlane_76 : decode cX3_addPlane 76 = .ok (.istore 6, 2) := by decide +kernel
theorem dX3_addPlane_78 : decode cX3_addPlane 78 = .ok (.iload 6, 2) := by decide +kernel
theorem dX3_addPlane_80 : decode cX3_addPlane 80 = .ok (.bipush 6, 2) := by decide +kernel
theorem dX3_addPlane_82 : decode cX3_addPlane 82 = .ok (.if_icmp .gt 20, 3) := by decide +kernel
theorem dX3_addPlane_85 : decode cX3_addPlane 85 = .ok (.aload_n 0, 1) := by decide +kernel
theorem dX3_addPlane_86 : decode cX3_addPlane 86 = .ok (.getfield 15, 3) := by decide +kernel
theorem dX3_addPlane_89 : decode cX3_addPlane 89 = .ok (.iload 6, 2) := by decide +kernel
theorem dX3_addPlane_91 : decode cX3_addPlane 91 = .ok (.aload_n 0, 1) := by decide +kernel
theorem dX3_addPlane_92 : decode cX3_addPlane 92 = .ok (.getfield 41, 3) := by decide +kernel
theorem dX3_addPlane_95 : decode cX3_addPlane 95 = .ok (.iastore, 1) := by decide +kernel
theorem dX3_addPlane_96 : decode cX3_addPlane 96 = .ok (.iinc 6 1, 3) := by decide +kernel
theorem dX3_addPlane_99 : decode cX3_addPlane 99 = .ok (.goto (-21), 3) := by decide +kernel
theorem dX3_addPlane_102 : decode cX3_addPlane 102 = .ok (.iload 5, 2) := by decide +kernel
theorem dX3_addPlane_104 : decode cX3_addPlane 104 = .ok (.istore 6, 2) := by decide +kernel
theorem dX3_addPlane_106 : decode cX3_addPlane 106 = .ok (.iload 6, 2) := by decide +kernel
theorem dX3_addPlane_108 : decode cX3_addPlane 108 = .ok (.aload_n 0, 1) := by decide +kernel
theorem dX3_addPlane_109 : decode cX3_addPlane 109 = .ok (.getfield 41, 3) := by decide +kernel
theorem dX3_addPlane_112 : decode cX3_addPlane 112 = .ok (.if_icmp .ge 21, 3) := by decide +kernel
theorem dX3_addPlane_115 : decode cX3_addPlane 115 = .ok (.aload_n 0, 1) := by decide +kernel
theorem dX3_addPlane_116 : decode cX3_addPlane 116 = .ok (.iload 6, 2) := by decide +kernel
theorem dX3_addPlane_118 : decode cX3_addPlane 118 = .ok (.invokevirtual 48, 3) := by decide +kernel
theorem dX3_addPlane_121 : decode cX3_addPlane 121 = .ok (.aload_n 0, 1) := by decide +kernel
theorem dX3_addPlane_122 : decode cX3_addPlane 122 = .ok (.iload 6, 2) := by decide +kernel
theorem dX3_addPlane_124 : decode cX3_addPlane 124 = .ok (.invokevirtual 52, 3) := by decide +kernel
theorem dX3_addPlane_127 : decode cX3_addPlane 127 = .ok (.iinc 6 1, 3) := by decide +kernel
theorem dX3_addPlane_130 : decode cX3_addPlane 130 = .ok (.goto (-24), 3) := by decide +kernel
theorem dX3_addPlane_133 : decode cX3_addPlane 133 = .ok (.aload_n 0, 1) := by decide +kernel
theorem dX3_addPlane_134 : decode cX3_addPlane 134 = .ok (.dup, 1) := by decide +kernel
theorem dX3_addPlane_135 : decode cX3_addPlane 135 = .ok (.getfield 55, 3) := by decide +kernel
theorem dX3_addPlane_138 : decode cX3_addPlane 138 = .ok (.iconst 1, 1) := by decide +kernel
theorem dX3_addPlane_139 : decode cX3_addPlane 139 = .ok (.iadd, 1) := by decide +kernel
theorem dX3_addPlane_140 : decode cX3_addPlane 140 = .ok (.putfield 55, 3) := by decide +kernel
theorem dX3_addPlane_143 : decode cX3_addPlane 143 = .ok (.iload 4, 2) := by decide +kernel
theorem dX3_addPlane_145 : decode cX3_addPlane 145 = .ok (.ireturn, 1) := by decide +kernel
theorem dX3_addPost_0 : decode cX3_addPost 0 = .ok (.aload_n 0, 1) := by decide +kernel
theorem dX3_addPost_1 : decode cX3_addPost 1 = .ok (.getfield 58, 3) := by decide +kernel
theorem dX3_addPost_4 : decode cX3_addPost 4 = .ok (.istore 4, 2) := by decide +kernel
theorem dX3_addPost_6 : decode cX3_addPost 6 = .ok (.aload_n 0, 1) := by decide +kernel
theorem dX3_addPost_7 : decode cX3_addPost 7 = .ok (.iload 4, 2) := by decide +kernel
theorem dX3_addPost_9 : decode cX3_addPost 9 = .ok (.invokestatic 61, 3) := by decide +kernel
theorem dX3_addPost_12 : decode cX3_addPost 12 = .ok (.iload_n 1, 1) := by decide +kernel
theorem dX3_addPost_13 : decode cX3_addPost 13 = .ok (.iload_n 2, 1) := by decide +kernel
theorem dX3_addPost_14 : decode cX3_addPost 14 = .ok (.iload_n 3, 1) := by decide +kernel
theorem dX3_addPost_15 : decode cX3_addPost 15 = .ok (.invokevirtual 44, 3) := by decide +kernel
theorem dX3_addPost_18 : decode cX3_addPost 18 = .ok (.aload_n 0, 1) := by decide +kernel
theorem dX3_addPost_19 : decode cX3_addPost 19 = .ok (.iload 4, 2) := by decide +kernel
theorem dX3_addPost_21 : decode cX3_addPost 21 = .ok (.iconst 1, 1) := by decide +kernel
theorem dX3_addPost_22 : decode cX3_addPost 22 = .ok (.iadd, 1) := by decide +kernel
theorem dX3_addPost_23 : decode cX3_addPost 23 = .ok (.putfield 58, 3) := by decide +kernel
theorem dX3_addPost_26 : decode cX3_addPost 26 = .ok (.iconst 0, 1) := by decide +kernel
theorem dX3_addPost_27 : decode cX3_addPost 27 = .ok (.istore 5, 2) := by decide +kernel
theorem dX3_addPost_29 : decode cX3_addPost 29 = .ok (.iload 5, 2) := by decide +kernel
theorem dX3_addPost_31 : decode cX3_addPost 31 = .ok (.aload_n 0, 1) := by decide +kernel
theorem dX3_addPost_32 : decode cX3_addPost 32 = .ok (.getfield 41, 3) := by decide +kernel
theorem dX3_addPost_35 : decode cX3_addPost 35 = .ok (.if_icmp .ge 20, 3) := by decide +kernel
theorem dX3_addPost_38 : decode cX3_addPost 38 = .ok (.aload_n 0, 1) := by decide +kernel
theorem dX3_addPost_39 : decode cX3_addPost 39 = .ok (.iload 4, 2) := by decide +kernel
theorem dX3_addPost_41 : decode cX3_addPost 41 = .ok (.invokestatic 61, 3) := by decide +kernel
theorem dX3_addPost_44 : decode cX3_addPost 44 = .ok (.iload 5, 2) := by decide +kernel
theorem dX3_addPost_46 : decode cX3_addPost 46 = .ok (.invokevirtual 65, 3) := by decide +kernel
theorem dX3_addPost_49 : decode cX3_addPost 49 = .ok (.iinc 5 1, 3) := by decide +kernel
theorem dX3_addPost_52 : decode cX3_addPost 52 = .ok (.goto (-23), 3) := by decide +kernel
theorem dX3_addPost_55 : decode cX3_addPost 55 = .ok (.aload_n 0, 1) := by decide +kernel
theorem dX3_addPost_56 : decode cX3_addPost 56 = .ok (.dup, 1) := by decide +kernel
theorem dX3_addPost_57 : decode cX3_addPost 57 = .ok (.getfield 55, 3) := by decide +kernel
theorem dX3_addPost_60 : decode cX3_addPost 60 = .ok (.iconst 1, 1) := by decide +kernel
theorem dX3_addPost_61 : decode cX3_addPost 61 = .ok (.iadd, 1) := by decide +kernel
theorem dX3_addPost_62 : decode cX3_addPost 62 = .ok (.putfield 55, 3) := by decide +kernel
theorem dX3_addPost_65 : decode cX3_addPost 65 = .ok (.iload 4, 2) := by decide +kernel
theorem dX3_addPost_67 : decode cX3_addPost 67 = .ok (.ireturn, 1) := by decide +kernel
theorem dX3_placeNode_0 : decode cX3_placeNode 0 = .ok (.aload_n 0, 1) := by decide +kernel
theorem dX3_placeNode_1 : decode cX3_placeNode 1 = .ok (.getfield 22, 3) := by decide +kernel
theorem dX3_placeNode_4 : decode cX3_placeNode 4 = .ok (.iload_n 1, 1) := by decide +kernel
theorem dX3_placeNode_5 : decode cX3_placeNode 5 = .ok (.iload_n 2, 1) := by decide +kernel
theorem dX3_placeNode_6 : decode cX3_placeNode 6 = .ok (.iastore, 1) := by decide +kernel
theorem dX3_placeNode_7 : decode cX3_placeNode 7 = .ok (.aload_n 0, 1) := by decide +kernel
theorem dX3_placeNode_8 : decode cX3_placeNode 8 = .ok (.getfield 19, 3) := by decide +kernel
theorem dX3_placeNode_11 : decode cX3_placeNode 11 = .ok (.iload_n 1, 1) := by decide +kernel
theorem dX3_placeNode_12 : decode cX3_placeNode 12 = .ok (.iload_n 3, 1) := by decide +kernel
theorem dX3_placeNode_13 : decode cX3_placeNode 13 = .ok (.iastore, 1) := by decide +kernel
theorem dX3_placeNode_14 : decode cX3_placeNode 14 = .ok (.aload_n 0, 1) := by decide +kernel
theorem dX3_placeNode_15 : decode cX3_placeNode 15 = .ok (.getfield 28, 3) := by decide +kernel
theorem dX3_placeNode_18 : decode cX3_placeNode 18 = .ok (.iload_n 1, 1) := by decide +kernel
theorem dX3_placeNode_19 : decode cX3_placeNode 19 = .ok (.iload 4, 2) := by decide +kernel
theorem dX3_placeNode_21 : decode cX3_placeNode 21 = .ok (.iastore, 1) := by decide +kernel
theorem dX3_placeNode_22 : decode cX3_placeNode 22 = .ok (.aload_n 0, 1) := by decide +kernel
theorem dX3_placeNode_23 : decode cX3_placeNode 23 = .ok (.getfield 9, 3) := by decide +kernel
theorem dX3_placeNode_26 : decode cX3_placeNode 26 = .ok (.iload_n 1, 1) := by decide +kernel
theorem dX3_placeNode_27 : decode cX3_placeNode 27 = .ok (.iconst 1, 1) := by decide +kernel
theorem dX3_placeNode_28 : decode cX3_placeNode 28 = .ok (.bastore, 1) := by decide +kernel
theorem dX3_placeNode_29 : decode cX3_placeNode 29 = .ok (.return_, 1) := by decide +kernel
theorem dX3_turnDead_0 : decode cX3_turnDead 0 = .ok (.aload_n 0, 1) := by decide +kernel
theorem dX3_turnDead_1 : decode cX3_turnDead 1 = .ok (.getfield 9, 3) := by decide +kernel
theorem dX3_turnDead_4 : decode cX3_turnDead 4 = .ok (.iload_n 1, 1) := by decide +kernel
theorem dX3_turnDead_5 : decode cX3_turnDead 5 = .ok (.baload, 1) := by decide +kernel
theorem dX3_turnDead_6 : decode cX3_turnDead 6 = .ok (.iload_n 2, 1) := by decide +kernel
theorem dX3_turnDead_7 : decode cX3_turnDead 7 = .ok (.if_icmp .eq 5, 3) := by decide +kernel
theorem dX3_turnDead_10 : decode cX3_turnDead 10 = .ok (.iconst 0, 1) := by decide +kernel
theorem dX3_turnDead_11 : decode cX3_turnDead 11 = .ok (.ireturn, 1) := by decide +kernel
theorem dX3_turnDead_12 : decode cX3_turnDead 12 = .ok (.aload_n 0, 1) := by decide +kernel
theorem dX3_turnDead_13 : decode cX3_turnDead 13 = .ok (.getfield 9, 3) := by decide +kernel
theorem dX3_turnDead_16 : decode cX3_turnDead 16 = .ok (.iload_n 1, 1) := by decide +kernel
theorem dX3_turnDead_17 : decode cX3_turnDead 17 = .ok (.iload_n 2, 1) := by decide +kernel
theorem dX3_turnDead_18 : decode cX3_turnDead 18 = .ok (.ifCond .ne 7, 3) := by decide +kernel
theorem dX3_turnDead_21 : decode cX3_turnDead 21 = .ok (.iconst 1, 1) := by decide +kernel
theorem dX3_turnDead_22 : decode cX3_turnDead 22 = .ok (.goto 4, 3) := by decide +kernel
theorem dX3_turnDead_25 : decode cX3_turnDead 25 = .ok (.iconst 0, 1) := by decide +kernel
theorem dX3_turnDead_26 : decode cX3_turnDead 26 = .ok (.bastore, 1) := by decide +kernel
theorem dX3_turnDead_27 : decode cX3_turnDead 27 = .ok (.aload_n 0, 1) := by decide +kernel
theorem dX3_turnDead_28 : decode cX3_turnDead 28 = .ok (.dup, 1) := by decide +kernel
theorem dX3_turnDead_29 : decode cX3_turnDead 29 = .ok (.getfield 55, 3) := by decide +kernel
theorem dX3_turnDead_32 : decode cX3_turnDead 32 = .ok (.iconst 1, 1) := by decide +kernel
theorem dX3_turnDead_33 : decode cX3_turnDead 33 = .ok (.iadd, 1) := by decide +kernel
theorem dX3_turnDead_34 : decode cX3_turnDead 34 = .ok (.putfield 55, 3) := by decide +kernel
theorem dX3_turnDead_37 : decode cX3_turnDead 37 = .ok (.iconst 1, 1) := by decide +kernel
theorem dX3_turnDead_38 : decode cX3_turnDead 38 = .ok (.ireturn, 1) := by decide +kernel
theorem dX3_tieToRelays_0 : decode cX3_tieToRelays 0 = .ok (.iconst 0, 1) := by decide +kernel
theorem dX3_tieToRelays_1 : decode cX3_tieToRelays 1 = .ok (.istore_n 2, 1) := by decide +kernel
theorem dX3_tieToRelays_2 : decode cX3_tieToRelays 2 = .ok (.iload_n 2, 1) := by decide +kernel
theorem dX3_tieToRelays_3 : decode cX3_tieToRelays 3 = .ok (.iload_n 1, 1) := by decide +kernel
theorem dX3_tieToRelays_4 : decode cX3_tieToRelays 4 = .ok (.if_icmp .ge 21, 3) := by decide +kernel
theorem dX3_tieToRelays_7 : decode cX3_tieToRelays 7 = .ok (.aload_n 0, 1) := by decide +kernel
theorem dX3_tieToRelays_8 : decode cX3_tieToRelays 8 = .ok (.iload_n 1, 1) := by decide +kernel
theorem dX3_tieToRelays_9 : decode cX3_tieToRelays 9 = .ok (.iload_n 2, 1) := by decide +kernel
theorem dX3_tieToRelays_10 : decode cX3_tieToRelays 10 = .ok (.invokevirtual 65, 3) := by decide +kernel
theorem dX3_tieToRelays_13 : decode cX3_tieToRelays 13 = .ok (.aload_n 0, 1) := by decide +kernel
theorem dX3_tieToRelays_14 : decode cX3_tieToRelays 14 = .ok (.iload_n 2, 1) := by decide +kernel
theorem dX3_tieToRelays_15 : decode cX3_tieToRelays 15 = .ok (.iload_n 1, 1) := by decide +kernel
theorem dX3_tieToRelays_16 : decode cX3_tieToRelays 16 = .ok (.invokevirtual 65, 3) := by decide +kernel
theorem dX3_tieToRelays_19 : decode cX3_tieToRelays 19 = .ok (.iinc 2 1, 3) := by decide +kernel
theorem dX3_tieToRelays_22 : decode cX3_tieToRelays 22 = .ok (.goto (-20), 3) := by decide +kernel
theorem dX3_tieToRelays_25 : decode cX3_tieToRelays 25 = .ok (.return_, 1) := by decide +kernel
theorem dX3_tieToPosts_0 : decode cX3_tieToPosts 0 = .ok (.iconst 0, 1) := by decide +kernel
theorem dX3_tieToPosts_1 : decode cX3_tieToPosts 1 = .ok (.istore_n 2, 1) := by decide +kernel
theorem dX3_tieToPosts_2 : decode cX3_tieToPosts 2 = .ok (.iload_n 2, 1) := by decide +kernel
theorem dX3_tieToPosts_3 : decode cX3_tieToPosts 3 = .ok (.aload_n 0, 1) := by decide +kernel
theorem dX3_tieToPosts_4 : decode cX3_tieToPosts 4 = .ok (.getfield 58, 3) := by decide +kernel
theorem dX3_tieToPosts_7 : decode cX3_tieToPosts 7 = .ok (.if_icmp .ge 18, 3) := by decide +kernel
theorem dX3_tieToPosts_10 : decode cX3_tieToPosts 10 = .ok (.aload_n 0, 1) := by decide +kernel
theorem dX3_tieToPosts_11 : decode cX3_tieToPosts 11 = .ok (.iload_n 2, 1) := by decide +kernel
theorem dX3_tieToPosts_12 : decode cX3_tieToPosts 12 = .ok (.invokestatic 61, 3) := by decide +kernel
theorem dX3_tieToPosts_15 : decode cX3_tieToPosts 15 = .ok (.iload_n 1, 1) := by decide +kernel
theorem dX3_tieToPosts_16 : decode cX3_tieToPosts 16 = .ok (.invokevirtual 65, 3) := by decide +kernel
theorem dX3_tieToPosts_19 : decode cX3_tieToPosts 19 = .ok (.iinc 2 1, 3) := by decide +kernel
theorem dX3_tieToPosts_22 : decode cX3_tieToPosts 22 = .ok (.goto (-20), 3) := by decide +kernel
theorem dX3_tieToPosts_25 : decode cX3_tieToPosts 25 = .ok (.return_, 1) := by decide +kernel
theorem dX3_tie_0 : decode cX3_tie 0 = .ok (.aload_n 0, 1) := by decide +kernel
theorem dX3_tie_1 : decode cX3_tie 1 = .ok (.iload_n 1, 1) := by decide +kernel
theorem dX3_tie_2 : decode cX3_tie 2 = .ok (.iload_n 2, 1) := by decide +kernel
theorem dX3_tie_3 : decode cX3_tie 3 = .ok (.invokevirtual 69, 3) := by decide +kernel
theorem dX3_tie_6 : decode cX3_tie 6 = .ok (.istore_n 3, 1) := by decide +kernel
theorem dX3_tie_7 : decode cX3_tie 7 = .ok (.iload_n 1, 1) := by decide +kernel
theorem dX3_tie_8 : decode cX3_tie 8 = .ok (.bipush 48, 2) := by decide +kernel
theorem dX3_tie_10 : decode cX3_tie 10 = .ok (.imul, 1) := by decide +kernel
theorem dX3_tie_11 : decode cX3_tie 11 = .ok (.iload_n 2, 1) := by decide +kernel
theorem dX3_tie_12 : decode cX3_tie 12 = .ok (.iadd, 1) := by decide +kernel
theorem dX3_tie_13 : decode cX3_tie 13 = .ok (.istore 4, 2) := by decide +kernel
theorem dX3_tie_15 : decode cX3_tie 15 = .ok (.aload_n 0, 1) := by decide +kernel
theorem dX3_tie_16 : decode cX3_tie 16 = .ok (.getfield 31, 3) := by decide +kernel
theorem dX3_tie_19 : decode cX3_tie 19 = .ok (.iload 4, 2) := by decide +kernel
theorem dX3_tie_21 : decode cX3_tie 21 = .ok (.iload_n 3, 1) := by decide +kernel
theorem dX3_tie_22 : decode cX3_tie 22 = .ok (.iastore, 1) := by decide +kernel
theorem dX3_tie_23 : decode cX3_tie 23 = .ok (.aload_n 0, 1) := by decide +kernel
theorem dX3_tie_24 : decode cX3_tie 24 = .ok (.getfield 34, 3) := by decide +kernel
theorem dX3_tie_27 : decode cX3_tie 27 = .ok (.iload 4, 2) := by decide +kernel
theorem dX3_tie_29 : decode cX3_tie 29 = .ok (.iload_n 3, 1) := by decide +kernel
theorem dX3_tie_30 : decode cX3_tie 30 = .ok (.iload_n 3, 1) := by decide +kernel
theorem dX3_tie_31 : decode cX3_tie 31 = .ok (.iconst 1, 1) := by decide +kernel
theorem dX3_tie_32 : decode cX3_tie 32 = .ok (.invokestatic 73, 3) := by decide +kernel
theorem dX3_tie_35 : decode cX3_tie 35 = .ok (.iand, 1) := by decide +kernel
theorem dX3_tie_36 : decode cX3_tie 36 = .ok (.iastore, 1) := by decide +kernel
theorem dX3_tie_37 : decode cX3_tie 37 = .ok (.aload_n 0, 1) := by decide +kernel
theorem dX3_tie_38 : decode cX3_tie 38 = .ok (.iload_n 1, 1) := by decide +kernel
theorem dX3_tie_39 : decode cX3_tie 39 = .ok (.iload_n 2, 1) := by decide +kernel
theorem dX3_tie_40 : decode cX3_tie 40 = .ok (.invokevirtual 76, 3) := by decide +kernel
theorem dX3_tie_43 : decode cX3_tie 43 = .ok (.iconst 2, 1) := by decide +kernel
theorem dX3_tie_44 : decode cX3_tie 44 = .ok (.if_icmp .ne 18, 3) := by decide +kernel
theorem dX3_tie_47 : decode cX3_tie 47 = .ok (.aload_n 0, 1) := by decide +kernel
theorem dX3_tie_48 : decode cX3_tie 48 = .ok (.getfield 34, 3) := by decide +kernel
theorem dX3_tie_51 : decode cX3_tie 51 = .ok (.iload 4, 2) := by decide +kernel
theorem dX3_tie_53 : decode cX3_tie 53 = .ok (.dup2, 1) := by decide +kernel
theorem dX3_tie_54 : decode cX3_tie 54 = .ok (.iaload, 1) := by decide +kernel
theorem dX3_tie_55 : decode cX3_tie 55 = .ok (.iload_n 3, 1) := by decide +kernel
theorem dX3_tie_56 : decode cX3_tie 56 = .ok (.iconst 2, 1) := by decide +kernel
theorem dX3_tie_57 : decode cX3_tie 57 = .ok (.invokestatic 73, 3) := by decide +kernel
theorem dX3_tie_60 : decode cX3_tie 60 = .ok (.iand, 1) := by decide +kernel
theorem dX3_tie_61 : decode cX3_tie 61 = .ok (.iastore, 1) := by decide +kernel
theorem dX3_tie_62 : decode cX3_tie 62 = .ok (.return_, 1) := by decide +kernel
theorem dX3_reckonTicks_0 : decode cX3_reckonTicks 0 = .ok (.aload_n 0, 1) := by decide +kernel
theorem dX3_reckonTicks_1 : decode cX3_reckonTicks 1 = .ok (.getfield 19, 3) := by decide +kernel
theorem dX3_reckonTicks_4 : decode cX3_reckonTicks 4 = .ok (.iload_n 1, 1) := by decide +kernel
theorem dX3_reckonTicks_5 : decode cX3_reckonTicks 5 = .ok (.iaload, 1) := by decide +kernel
theorem dX3_reckonTicks_6 : decode cX3_reckonTicks 6 = .ok (.aload_n 0, 1) := by decide +kernel
theorem dX3_reckonTicks_7 : decode cX3_reckonTicks 7 = .ok (.getfield 19, 3) := by decide +kernel
theorem dX3_reckonTicks_10 : decode cX3_reckonTicks 10 = .ok (.iload_n 2, 1) := by decide +kernel
theorem dX3_reckonTicks_11 : decode cX3_reckonTicks 11 = .ok (.iaload, 1) := by decide +kernel
theorem dX3_reckonTicks_12 : decode cX3_reckonTicks 12 = .ok (.isub, 1) := by decide +kernel
theorem dX3_reckonTicks_13 : decode cX3_reckonTicks 13 = .ok (.istore_n 3, 1) := by decide +kernel
theorem dX3_reckonTicks_14 : decode cX3_reckonTicks 14 = .ok (.iload_n 3, 1) := by decide +kernel
theorem dX3_reckonTicks_15 : decode cX3_reckonTicks 15 = .ok (.iconst (-1), 1) := by decide +kernel
theorem dX3_reckonTicks_16 : decode cX3_reckonTicks 16 = .ok (.if_icmp .lt 8, 3) := by decide +kernel
theorem dX3_reckonTicks_19 : decode cX3_reckonTicks 19 = .ok (.iload_n 3, 1) := by decide +kernel
theorem dX3_reckonTicks_20 : decode cX3_reckonTicks 20 = .ok (.iconst 1, 1) := by decide +kernel
theorem dX3_reckonTicks_21 : decode cX3_reckonTicks 21 = .ok (.if_icmp .le 5, 3) := by decide +kernel
theorem dX3_reckonTicks_24 : decode cX3_reckonTicks 24 = .ok (.iconst 0, 1) := by decide +kernel
theorem dX3_reckonTicks_25 : decode cX3_reckonTicks 25 = .ok (.ireturn, 1) := by decide +kernel
theorem dX3_reckonTicks_26 : decode cX3_reckonTicks 26 = .ok (.iload_n 3, 1) := by decide +kernel
theorem dX3_reckonTicks_27 : decode cX3_reckonTicks 27 = .ok (.ifCond .ne 25, 3) := by decide +kernel
theorem dX3_reckonTicks_30 : decode cX3_reckonTicks 30 = .ok (.iload_n 1, 1) := by decide +kernel
theorem dX3_reckonTicks_31 : decode cX3_reckonTicks 31 = .ok (.invokestatic 79, 3) := by decide +kernel
theorem dX3_reckonTicks_34 : decode cX3_reckonTicks 34 = .ok (.ifCond .eq 18, 3) := by decide +kernel
theorem dX3_reckonTicks_37 : decode cX3_reckonTicks 37 = .ok (.aload_n 0, 1) := by decide +kernel
theorem dX3_reckonTicks_38 : decode cX3_reckonTicks 38 = .ok (.iload_n 1, 1) := by decide +kernel
theorem dX3_reckonTicks_39 : decode cX3_reckonTicks 39 = .ok (.iload_n 2, 1) := by decide +kernel
theorem dX3_reckonTicks_40 : decode cX3_reckonTicks 40 = .ok (.invokevirtual 83, 3) := by decide +kernel
theorem dX3_reckonTicks_43 : decode cX3_reckonTicks 43 = .ok (.ifCond .eq 7, 3) := by decide +kernel
theorem dX3_reckonTicks_46 : decode cX3_reckonTicks 46 = .ok (.iconst (-1), 1) := by decide +kernel
theorem dX3_reckonTicks_47 : decode cX3_reckonTicks 47 = .ok (.goto 4, 3) := by decide +kernel
theorem dX3_reckonTicks_50 : decode cX3_reckonTicks 50 = .ok (.iconst 0, 1) := by decide +kernel
theorem dX3_reckonTicks_51 : decode cX3_reckonTicks 51 = .ok (.ireturn, 1) := by decide +kernel
theorem dX3_reckonTicks_52 : decode cX3_reckonTicks 52 = .ok (.iconst 0, 1) := by decide +kernel
theorem dX3_reckonTicks_53 : decode cX3_reckonTicks 53 = .ok (.istore 4, 2) := by decide +kernel
theorem dX3_reckonTicks_55 : decode cX3_reckonTicks 55 = .ok (.iconst 0, 1) := by decide +kernel
theorem dX3_reckonTicks_56 : decode cX3_reckonTicks 56 = .ok (.istore 5, 2) := by decide +kernel
theorem dX3_reckonTicks_58 : decode cX3_reckonTicks 58 = .ok (.iload 5, 2) := by decide +kernel
theorem dX3_reckonTicks_60 : decode cX3_reckonTicks 60 = .ok (.bipush 32, 2) := by decide +kernel
theorem dX3_reckonTicks_62 : decode cX3_reckonTicks 62 = .ok (.if_icmp .ge 44, 3) := by decide +kernel
theorem dX3_reckonTicks_65 : decode cX3_reckonTicks 65 = .ok (.aload_n 0, 1) := by decide +kernel
theorem dX3_reckonTicks_66 : decode cX3_reckonTicks 66 = .ok (.iload_n 1, 1) := by decide +kernel
theorem dX3_reckonTicks_67 : decode cX3_reckonTicks 67 = .ok (.iload 5, 2) := by decide +kernel
theorem dX3_reckonTicks_69 : decode cX3_reckonTicks 69 = .ok (.invokevirtual 87, 3) := by decide +kernel
theorem dX3_reckonTicks_72 : decode cX3_reckonTicks 72 = .ok (.aload_n 0, 1) := by decide +kernel
theorem dX3_reckonTicks_73 : decode cX3_reckonTicks 73 = .ok (.iload_n 2, 1) := by decide +kernel
theorem dX3_reckonTicks_74 : decode cX3_reckonTicks 74 = .ok (.iload 5, 2) := by decide +kernel
theorem dX3_reckonTicks_76 : decode cX3_reckonTicks 76 = .ok (.invokevirtual 87, 3) := by decide +kernel
theorem dX3_reckonTicks_79 : decode cX3_reckonTicks 79 = .ok (.invokestatic 90, 3) := by decide +kernel
theorem dX3_reckonTicks_82 : decode cX3_reckonTicks 82 = .ok (.aload_n 0, 1) := by decide +kernel
theorem dX3_reckonTicks_83 : decode cX3_reckonTicks 83 = .ok (.getfield 28, 3) := by decide +kernel
theorem dX3_reckonTicks_86 : decode cX3_reckonTicks 86 = .ok (.iload_n 1, 1) := by decide +kernel
theorem dX3_reckonTicks_87 : decode cX3_reckonTicks 87 = .ok (.iaload, 1) := by decide +kernel
theorem dX3_reckonTicks_88 : decode cX3_reckonTicks 88 = .ok (.if_icmp .gt 12, 3) := by decide +kernel
theorem dX3_reckonTicks_91 : decode cX3_reckonTicks 91 = .ok (.iload 4, 2) := by decide +kernel
theorem dX3_reckonTicks_93 : decode cX3_reckonTicks 93 = .ok (.iconst 1, 1) := by decide +kernel
theorem dX3_reckonTicks_94 : decode cX3_reckonTicks 94 = .ok (.iload 5, 2) := by decide +kernel
theorem dX3_reckonTicks_96 : decode cX3_reckonTicks 96 = .ok (.ishl, 1) := by decide +kernel
theorem dX3_reckonTicks_97 : decode cX3_reckonTicks 97 = .ok (.ior, 1) := by decide +kernel
theorem dX3_reckonTicks_98 : decode cX3_reckonTicks 98 = .ok (.istore 4, 2) := by decide +kernel
theorem dX3_reckonTicks_100 : decode cX3_reckonTicks 100 = .ok (.iinc 5 1, 3) := by decide +kernel
theorem dX3_reckonTicks_103 : decode cX3_reckonTicks 103 = .ok (.goto (-45), 3) := by decide +kernel
theorem dX3_reckonTicks_106 : decode cX3_reckonTicks 106 = .ok (.iload 4, 2) := by decide +kernel
theorem dX3_reckonTicks_108 : decode cX3_reckonTicks 108 = .ok (.ireturn, 1) := by decide +kernel
theorem dX3_areNext_0 : decode cX3_areNext 0 = .ok (.iload_n 1, 1) := by decide +kernel
theorem dX3_areNext_1 : decode cX3_areNext 1 = .ok (.iload_n 2, 1) := by decide +kernel
theorem dX3_areNext_2 : decode cX3_areNext 2 = .ok (.isub, 1) := by decide +kernel
theorem dX3_areNext_3 : decode cX3_areNext 3 = .ok (.invokestatic 93, 3) := by decide +kernel
theorem dX3_areNext_6 : decode cX3_areNext 6 = .ok (.istore_n 3, 1) := by decide +kernel
theorem dX3_areNext_7 : decode cX3_areNext 7 = .ok (.aload_n 0, 1) := by decide +kernel
theorem dX3_areNext_8 : decode cX3_areNext 8 = .ok (.getfield 19, 3) := by decide +kernel
theorem dX3_areNext_11 : decode cX3_areNext 11 = .ok (.iload_n 1, 1) := by decide +kernel
theorem dX3_areNext_12 : decode cX3_areNext 12 = .ok (.iaload, 1) := by decide +kernel
theorem dX3_areNext_13 : decode cX3_areNext 13 = .ok (.istore 4, 2) := by decide +kernel
theorem dX3_areNext_15 : decode cX3_areNext 15 = .ok (.aload_n 0, 1) := by decide +kernel
theorem dX3_areNext_16 : decode cX3_areNext 16 = .ok (.getfield 15, 3) := by decide +kernel
theorem dX3_areNext_19 : decode cX3_areNext 19 = .ok (.iload 4, 2) := by decide +kernel
theorem dX3_areNext_21 : decode cX3_areNext 21 = .ok (.iconst 1, 1) := by decide +kernel
theorem dX3_areNext_22 : decode cX3_areNext 22 = .ok (.iadd, 1) := by decide +kernel
theorem dX3_areNext_23 : decode cX3_areNext 23 = .ok (.iaload, 1) := by decide +kernel
theorem dX3_areNext_24 : decode cX3_areNext 24 = .ok (.aload_n 0, 1) := by decide +kernel
theorem dX3_areNext_25 : decode cX3_areNext 25 = .ok (.getfield 15, 3) := by decide +kernel
theorem dX3_areNext_28 : decode cX3_areNext 28 = .ok (.iload 4, 2) := by decide +kernel
theorem dX3_areNext_30 : decode cX3_areNext 30 = .ok (.iaload, 1) := by decide +kernel
theorem dX3_areNext_31 : decode cX3_areNext 31 = .ok (.isub, 1) := by decide +kernel
theorem dX3_areNext_32 : decode cX3_areNext 32 = .ok (.istore 5, 2) := by decide +kernel
theorem dX3_areNext_34 : decode cX3_areNext 34 = .ok (.iload_n 3, 1) := by decide +kernel
theorem dX3_areNext_35 : decode cX3_areNext 35 = .ok (.iconst 1, 1) := by decide +kernel
theorem dX3_areNext_36 : decode cX3_areNext 36 = .ok (.if_icmp .eq 17, 3) := by decide +kernel
theorem dX3_areNext_39 : decode cX3_areNext 39 = .ok (.iload 5, 2) := by decide +kernel
theorem dX3_areNext_41 : decode cX3_areNext 41 = .ok (.iconst 3, 1) := by decide +kernel
theorem dX3_areNext_42 : decode cX3_areNext 42 = .ok (.if_icmp .lt 15, 3) := by decide +kernel
theorem dX3_areNext_45 : decode cX3_areNext 45 = .ok (.iload_n 3, 1) := by decide +kernel
theorem dX3_areNext_46 : decode cX3_areNext 46 = .ok (.iload 5, 2) := by decide +kernel
theorem dX3_areNext_48 : decode cX3_areNext 48 = .ok (.iconst 1, 1) := by decide +kernel
theorem dX3_areNext_49 : decode cX3_areNext 49 = .ok (.isub, 1) := by decide +kernel
theorem dX3_areNext_50 : decode cX3_areNext 50 = .ok (.if_icmp .ne 7, 3) := by decide +kernel
theorem dX3_areNext_53 : decode cX3_areNext 53 = .ok (.iconst 1, 1) := by decide +kernel
theorem dX3_areNext_54 : decode cX3_areNext 54 = .ok (.goto 4, 3) := by decide +kernel
theorem dX3_areNext_57 : decode cX3_areNext 57 = .ok (.iconst 0, 1) := by decide +kernel
theorem dX3_areNext_58 : decode cX3_areNext 58 = .ok (.ireturn, 1) := by decide +kernel
theorem dX3_apart_0 : decode cX3_apart 0 = .ok (.iload_n 0, 1) := by decide +kernel
theorem dX3_apart_1 : decode cX3_apart 1 = .ok (.iload_n 1, 1) := by decide +kernel
theorem dX3_apart_2 : decode cX3_apart 2 = .ok (.isub, 1) := by decide +kernel
theorem dX3_apart_3 : decode cX3_apart 3 = .ok (.invokestatic 93, 3) := by decide +kernel
theorem dX3_apart_6 : decode cX3_apart 6 = .ok (.istore_n 2, 1) := by decide +kernel
theorem dX3_apart_7 : decode cX3_apart 7 = .ok (.iload_n 2, 1) := by decide +kernel
theorem dX3_apart_8 : decode cX3_apart 8 = .ok (.bipush 32, 2) := by decide +kernel
theorem dX3_apart_10 : decode cX3_apart 10 = .ok (.iload_n 2, 1) := by decide +kernel
theorem dX3_apart_11 : decode cX3_apart 11 = .ok (.isub, 1) := by decide +kernel
theorem dX3_apart_12 : decode cX3_apart 12 = .ok (.invokestatic 98, 3) := by decide +kernel
theorem dX3_apart_15 : decode cX3_apart 15 = .ok (.ireturn, 1) := by decide +kernel
theorem dX3_placeOf_0 : decode cX3_placeOf 0 = .ok (.aload_n 0, 1) := by decide +kernel
theorem dX3_placeOf_1 : decode cX3_placeOf 1 = .ok (.getfield 22, 3) := by decide +kernel
theorem dX3_placeOf_4 : decode cX3_placeOf 4 = .ok (.iload_n 1, 1) := by decide +kernel
theorem dX3_placeOf_5 : decode cX3_placeOf 5 = .ok (.iaload, 1) := by decide +kernel
theorem dX3_placeOf_6 : decode cX3_placeOf 6 = .ok (.aload_n 0, 1) := by decide +kernel
theorem dX3_placeOf_7 : decode cX3_placeOf 7 = .ok (.getfield 25, 3) := by decide +kernel
theorem dX3_placeOf_10 : decode cX3_placeOf 10 = .ok (.iload_n 1, 1) := by decide +kernel
theorem dX3_placeOf_11 : decode cX3_placeOf 11 = .ok (.iaload, 1) := by decide +kernel
theorem dX3_placeOf_12 : decode cX3_placeOf 12 = .ok (.iload_n 2, 1) := by decide +kernel
theorem dX3_placeOf_13 : decode cX3_placeOf 13 = .ok (.imul, 1) := by decide +kernel
theorem dX3_placeOf_14 : decode cX3_placeOf 14 = .ok (.iadd, 1) := by decide +kernel
theorem dX3_placeOf_15 : decode cX3_placeOf 15 = .ok (.bipush 32, 2) := by decide +kernel
theorem dX3_placeOf_17 : decode cX3_placeOf 17 = .ok (.invokestatic 101, 3) := by decide +kernel
theorem dX3_placeOf_20 : decode cX3_placeOf 20 = .ok (.ireturn, 1) := by decide +kernel
theorem dX3_lengthOf_0 : decode cX3_lengthOf 0 = .ok (.iload_n 1, 1) := by decide +kernel
theorem dX3_lengthOf_1 : decode cX3_lengthOf 1 = .ok (.invokestatic 79, 3) := by decide +kernel
theorem dX3_lengthOf_4 : decode cX3_lengthOf 4 = .ok (.ifCond .eq 29, 3) := by decide +kernel
theorem dX3_lengthOf_7 : decode cX3_lengthOf 7 = .ok (.iload_n 2, 1) := by decide +kernel
theorem dX3_lengthOf_8 : decode cX3_lengthOf 8 = .ok (.invokestatic 79, 3) := by decide +kernel
theorem dX3_lengthOf_11 : decode cX3_lengthOf 11 = .ok (.ifCond .eq 22, 3) := by decide +kernel
theorem dX3_lengthOf_14 : decode cX3_lengthOf 14 = .ok (.aload_n 0, 1) := by decide +kernel
theorem dX3_lengthOf_15 : decode cX3_lengthOf 15 = .ok (.getfield 19, 3) := by decide +kernel
theorem dX3_lengthOf_18 : decode cX3_lengthOf 18 = .ok (.iload_n 1, 1) := by decide +kernel
theorem dX3_lengthOf_19 : decode cX3_lengthOf 19 = .ok (.iaload, 1) := by decide +kernel
theorem dX3_lengthOf_20 : decode cX3_lengthOf 20 = .ok (.aload_n 0, 1) := by decide +kernel
theorem dX3_lengthOf_21 : decode cX3_lengthOf 21 = .ok (.getfield 19, 3) := by decide +kernel
theorem dX3_lengthOf_24 : decode cX3_lengthOf 24 = .ok (.iload_n 2, 1) := by decide +kernel
theorem dX3_lengthOf_25 : decode cX3_lengthOf 25 = .ok (.iaload, 1) := by decide +kernel
theorem dX3_lengthOf_26 : decode cX3_lengthOf 26 = .ok (.if_icmp .ne 7, 3) := by decide +kernel
theorem dX3_lengthOf_29 : decode cX3_lengthOf 29 = .ok (.iconst 1, 1) := by decide +kernel
theorem dX3_lengthOf_30 : decode cX3_lengthOf 30 = .ok (.goto 4, 3) := by decide +kernel
theorem dX3_lengthOf_33 : decode cX3_lengthOf 33 = .ok (.iconst 0, 1) := by decide +kernel
theorem dX3_lengthOf_34 : decode cX3_lengthOf 34 = .ok (.istore_n 3, 1) := by decide +kernel
theorem dX3_lengthOf_35 : decode cX3_lengthOf 35 = .ok (.iload_n 3, 1) := by decide +kernel
theorem dX3_lengthOf_36 : decode cX3_lengthOf 36 = .ok (.ifCond .eq 7, 3) := by decide +kernel
theorem dX3_lengthOf_39 : decode cX3_lengthOf 39 = .ok (.iconst 2, 1) := by decide +kernel
theorem dX3_lengthOf_40 : decode cX3_lengthOf 40 = .ok (.goto 4, 3) := by decide +kernel
theorem dX3_lengthOf_43 : decode cX3_lengthOf 43 = .ok (.iconst 1, 1) := by decide +kernel
theorem dX3_lengthOf_44 : decode cX3_lengthOf 44 = .ok (.ireturn, 1) := by decide +kernel
theorem dX3_isUp_0 : decode cX3_isUp 0 = .ok (.aload_n 0, 1) := by decide +kernel
theorem dX3_isUp_1 : decode cX3_isUp 1 = .ok (.getfield 9, 3) := by decide +kernel
theorem dX3_isUp_4 : decode cX3_isUp 4 = .ok (.iload_n 1, 1) := by decide +kernel
theorem dX3_isUp_5 : decode cX3_isUp 5 = .ok (.baload, 1) := by decide +kernel
theorem dX3_isUp_6 : decode cX3_isUp 6 = .ok (.ireturn, 1) := by decide +kernel
theorem dX3_ticksThere_0 : decode cX3_ticksThere 0 = .ok (.aload_n 0, 1) := by decide +kernel
theorem dX3_ticksThere_1 : decode cX3_ticksThere 1 = .ok (.getfield 9, 3) := by decide +kernel
theorem dX3_ticksThere_4 : decode cX3_ticksThere 4 = .ok (.iload_n 1, 1) := by decide +kernel
theorem dX3_ticksThere_5 : decode cX3_ticksThere 5 = .ok (.baload, 1) := by decide +kernel
theorem dX3_ticksThere_6 : decode cX3_ticksThere 6 = .ok (.ifCond .eq 26, 3) := by decide +kernel
theorem dX3_ticksThere_9 : decode cX3_ticksThere 9 = .ok (.aload_n 0, 1) := by decide +kernel
theorem dX3_ticksThere_10 : decode cX3_ticksThere 10 = .ok (.getfield 9, 3) := by decide +kernel
theorem dX3_ticksThere_13 : decode cX3_ticksThere 13 = .ok (.iload_n 2, 1) := by decide +kernel
theorem dX3_ticksThere_14 : decode cX3_ticksThere 14 = .ok (.baload, 1) := by decide +kernel
theorem dX3_ticksThere_15 : decode cX3_ticksThere 15 = .ok (.ifCond .eq 17, 3) := by decide +kernel
theorem dX3_ticksThere_18 : decode cX3_ticksThere 18 = .ok (.aload_n 0, 1) := by decide +kernel
theorem dX3_ticksThere_19 : decode cX3_ticksThere 19 = .ok (.getfield 31, 3) := by decide +kernel
theorem dX3_ticksThere_22 : decode cX3_ticksThere 22 = .ok (.iload_n 1, 1) := by decide +kernel
theorem dX3_ticksThere_23 : decode cX3_ticksThere 23 = .ok (.bipush 48, 2) := by decide +kernel
theorem dX3_ticksThere_25 : decode cX3_ticksThere 25 = .ok (.imul, 1) := by decide +kernel
theorem dX3_ticksThere_26 : decode cX3_ticksThere 26 = .ok (.iload_n 2, 1) := by decide +kernel
theorem dX3_ticksThere_27 : decode cX3_ticksThere 27 = .ok (.iadd, 1) := by decide +kernel
theorem dX3_ticksThere_28 : decode cX3_ticksThere 28 = .ok (.iaload, 1) := by decide +kernel
theorem dX3_ticksThere_29 : decode cX3_ticksThere 29 = .ok (.goto 4, 3) := by decide +kernel
theorem dX3_ticksThere_32 : decode cX3_ticksThere 32 = .ok (.iconst 0, 1) := by decide +kernel
theorem dX3_ticksThere_33 : decode cX3_ticksThere 33 = .ok (.ireturn, 1) := by decide +kernel
theorem dX3_ticksToTake_0 : decode cX3_ticksToTake 0 = .ok (.aload_n 0, 1) := by decide +kernel
theorem dX3_ticksToTake_1 : decode cX3_ticksToTake 1 = .ok (.getfield 9, 3) := by decide +kernel
theorem dX3_ticksToTake_4 : decode cX3_ticksToTake 4 = .ok (.iload_n 1, 1) := by decide +kernel
theorem dX3_ticksToTake_5 : decode cX3_ticksToTake 5 = .ok (.baload, 1) := by decide +kernel
theorem dX3_ticksToTake_6 : decode cX3_ticksToTake 6 = .ok (.ifCond .eq 26, 3) := by decide +kernel
theorem dX3_ticksToTake_9 : decode cX3_ticksToTake 9 = .ok (.aload_n 0, 1) := by decide +kernel
theorem dX3_ticksToTake_10 : decode cX3_ticksToTake 10 = .ok (.getfield 9, 3) := by decide +kernel
theorem dX3_ticksToTake_13 : decode cX3_ticksToTake 13 = .ok (.iload_n 2, 1) := by decide +kernel
theorem dX3_ticksToTake_14 : decode cX3_ticksToTake 14 = .ok (.baload, 1) := by decide +kernel
theorem dX3_ticksToTake_15 : decode cX3_ticksToTake 15 = .ok (.ifCond .eq 17, 3) := by decide +kernel
theorem dX3_ticksToTake_18 : decode cX3_ticksToTake 18 = .ok (.aload_n 0, 1) := by decide +kernel
theorem dX3_ticksToTake_19 : decode cX3_ticksToTake 19 = .ok (.getfield 34, 3) := by decide +kernel
theorem dX3_ticksToTake_22 : decode cX3_ticksToTake 22 = .ok (.iload_n 1, 1) := by decide +kernel
theorem dX3_ticksToTake_23 : decode cX3_ticksToTake 23 = .ok (.bipush 48, 2) := by decide +kernel
theorem dX3_ticksToTake_25 : decode cX3_ticksToTake 25 = .ok (.imul, 1) := by decide +kernel
theorem dX3_ticksToTake_26 : decode cX3_ticksToTake 26 = .ok (.iload_n 2, 1) := by decide +kernel
theorem dX3_ticksToTake_27 : decode cX3_ticksToTake 27 = .ok (.iadd, 1) := by decide +kernel
theorem dX3_ticksToTake_28 : decode cX3_ticksToTake 28 = .ok (.iaload, 1) := by decide +kernel
theorem dX3_ticksToTake_29 : decode cX3_ticksToTake 29 = .ok (.goto 4, 3) := by decide +kernel
theorem dX3_ticksToTake_32 : decode cX3_ticksToTake 32 = .ok (.iconst 0, 1) := by decide +kernel
theorem dX3_ticksToTake_33 : decode cX3_ticksToTake 33 = .ok (.ireturn, 1) := by decide +kernel
theorem dX3_isThere_0 : decode cX3_isThere 0 = .ok (.aload_n 0, 1) := by decide +kernel
theorem dX3_isThere_1 : decode cX3_isThere 1 = .ok (.iload_n 1, 1) := by decide +kernel
theorem dX3_isThere_2 : decode cX3_isThere 2 = .ok (.iload_n 2, 1) := by decide +kernel
theorem dX3_isThere_3 : decode cX3_isThere 3 = .ok (.invokevirtual 104, 3) := by decide +kernel
theorem dX3_isThere_6 : decode cX3_isThere 6 = .ok (.iload_n 3, 1) := by decide +kernel
theorem dX3_isThere_7 : decode cX3_isThere 7 = .ok (.bipush 31, 2) := by decide +kernel
theorem dX3_isThere_9 : decode cX3_isThere 9 = .ok (.iand, 1) := by decide +kernel
theorem dX3_isThere_10 : decode cX3_isThere 10 = .ok (.iushr, 1) := by decide +kernel
theorem dX3_isThere_11 : decode cX3_isThere 11 = .ok (.iconst 1, 1) := by decide +kernel
theorem dX3_isThere_12 : decode cX3_isThere 12 = .ok (.iand, 1) := by decide +kernel
theorem dX3_isThere_13 : decode cX3_isThere 13 = .ok (.ifCond .eq 7, 3) := by decide +kernel
theorem dX3_isThere_16 : decode cX3_isThere 16 = .ok (.iconst 1, 1) := by decide +kernel
theorem dX3_isThere_17 : decode cX3_isThere 17 = .ok (.goto 4, 3) := by decide +kernel
theorem dX3_isThere_20 : decode cX3_isThere 20 = .ok (.iconst 0, 1) := by decide +kernel
theorem dX3_isThere_21 : decode cX3_isThere 21 = .ok (.ireturn, 1) := by decide +kernel
theorem dX3_nearFrom_0 : decode cX3_nearFrom 0 = .ok (.aload_n 0, 1) := by decide +kernel
theorem dX3_nearFrom_1 : decode cX3_nearFrom 1 = .ok (.getfield 15, 3) := by decide +kernel
theorem dX3_nearFrom_4 : decode cX3_nearFrom 4 = .ok (.aload_n 0, 1) := by decide +kernel
theorem dX3_nearFrom_5 : decode cX3_nearFrom 5 = .ok (.getfield 19, 3) := by decide +kernel
theorem dX3_nearFrom_8 : decode cX3_nearFrom 8 = .ok (.iload_n 1, 1) := by decide +kernel
theorem dX3_nearFrom_9 : decode cX3_nearFrom 9 = .ok (.iaload, 1) := by decide +kernel
theorem dX3_nearFrom_10 : decode cX3_nearFrom 10 = .ok (.iconst 1, 1) := by decide +kernel
theorem dX3_nearFrom_11 : decode cX3_nearFrom 11 = .ok (.isub, 1) := by decide +kernel
theorem dX3_nearFrom_12 : decode cX3_nearFrom 12 = .ok (.iconst 0, 1) := by decide +kernel
theorem dX3_nearFrom_13 : decode cX3_nearFrom 13 = .ok (.invokestatic 107, 3) := by decide +kernel
theorem dX3_nearFrom_16 : decode cX3_nearFrom 16 = .ok (.iaload, 1) := by decide +kernel
theorem dX3_nearFrom_17 : decode cX3_nearFrom 17 = .ok (.ireturn, 1) := by decide +kernel
theorem dX3_nearTo_0 : decode cX3_nearTo 0 = .ok (.aload_n 0, 1) := by decide +kernel
theorem dX3_nearTo_1 : decode cX3_nearTo 1 = .ok (.getfield 15, 3) := by decide +kernel
theorem dX3_nearTo_4 : decode cX3_nearTo 4 = .ok (.aload_n 0, 1) := by decide +kernel
theorem dX3_nearTo_5 : decode cX3_nearTo 5 = .ok (.getfield 19, 3) := by decide +kernel
theorem dX3_nearTo_8 : decode cX3_nearTo 8 = .ok (.iload_n 1, 1) := by decide +kernel
theorem dX3_nearTo_9 : decode cX3_nearTo 9 = .ok (.iaload, 1) := by decide +kernel
theorem dX3_nearTo_10 : decode cX3_nearTo 10 = .ok (.iconst 2, 1) := by decide +kernel
theorem dX3_nearTo_11 : decode cX3_nearTo 11 = .ok (.iadd, 1) := by decide +kernel
theorem dX3_nearTo_12 : decode cX3_nearTo 12 = .ok (.bipush 6, 2) := by decide +kernel
theorem dX3_nearTo_14 : decode cX3_nearTo 14 = .ok (.invokestatic 98, 3) := by decide +kernel
theorem dX3_nearTo_17 : decode cX3_nearTo 17 = .ok (.iaload, 1) := by decide +kernel
theorem dX3_nearTo_18 : decode cX3_nearTo 18 = .ok (.ireturn, 1) := by decide +kernel
theorem dX3_deadRelays_0 : decode cX3_deadRelays 0 = .ok (.iconst 0, 1) := by decide +kernel
theorem dX3_deadRelays_1 : decode cX3_deadRelays 1 = .ok (.istore_n 1, 1) := by decide +kernel
theorem dX3_deadRelays_2 : decode cX3_deadRelays 2 = .ok (.iconst 0, 1) := by decide +kernel
theorem dX3_deadRelays_3 : decode cX3_deadRelays 3 = .ok (.istore_n 2, 1) := by decide +kernel
theorem dX3_deadRelays_4 : decode cX3_deadRelays 4 = .ok (.iload_n 2, 1) := by decide +kernel
theorem dX3_deadRelays_5 : decode cX3_deadRelays 5 = .ok (.aload_n 0, 1) := by decide +kernel
theorem dX3_deadRelays_6 : decode cX3_deadRelays 6 = .ok (.getfield 41, 3) := by decide +kernel
theorem dX3_deadRelays_9 : decode cX3_deadRelays 9 = .ok (.if_icmp .ge 21, 3) := by decide +kernel
theorem dX3_deadRelays_12 : decode cX3_deadRelays 12 = .ok (.aload_n 0, 1) := by decide +kernel
theorem dX3_deadRelays_13 : decode cX3_deadRelays 13 = .ok (.getfield 9, 3) := by decide +kernel
theorem dX3_deadRelays_16 : decode cX3_deadRelays 16 = .ok (.iload_n 2, 1) := by decide +kernel
theorem dX3_deadRelays_17 : decode cX3_deadRelays 17 = .ok (.baload, 1) := by decide +kernel
theorem dX3_deadRelays_18 : decode cX3_deadRelays 18 = .ok (.ifCond .ne 6, 3) := by decide +kernel
theorem dX3_deadRelays_21 : decode cX3_deadRelays 21 = .ok (.iinc 1 1, 3) := by decide +kernel
theorem dX3_deadRelays_24 : decode cX3_deadRelays 24 = .ok (.iinc 2 1, 3) := by decide +kernel
theorem dX3_deadRelays_27 : decode cX3_deadRelays 27 = .ok (.goto (-23), 3) := by decide +kernel
theorem dX3_deadRelays_30 : decode cX3_deadRelays 30 = .ok (.iload_n 1, 1) := by decide +kernel
theorem dX3_deadRelays_31 : decode cX3_deadRelays 31 = .ok (.ireturn, 1) := by decide +kernel
theorem dX3_linksOfRelays_0 : decode cX3_linksOfRelays 0 = .ok (.iconst 0, 1) := by decide +kernel
theorem dX3_linksOfRelays_1 : decode cX3_linksOfRelays 1 = .ok (.istore_n 2, 1) := by decide +kernel
theorem dX3_linksOfRelays_2 : decode cX3_linksOfRelays 2 = .ok (.iconst 0, 1) := by decide +kernel
theorem dX3_linksOfRelays_3 : decode cX3_linksOfRelays 3 = .ok (.istore_n 3, 1) := by decide +kernel
theorem dX3_linksOfRelays_4 : decode cX3_linksOfRelays 4 = .ok (.iload_n 3, 1) := by decide +kernel
theorem dX3_linksOfRelays_5 : decode cX3_linksOfRelays 5 = .ok (.aload_n 0, 1) := by decide +kernel
theorem dX3_linksOfRelays_6 : decode cX3_linksOfRelays 6 = .ok (.getfield 41, 3) := by decide +kernel
theorem dX3_linksOfRelays_9 : decode cX3_linksOfRelays 9 = .ok (.if_icmp .ge 44, 3) := by decide +kernel
theorem dX3_linksOfRelays_12 : decode cX3_linksOfRelays 12 = .ok (.iload_n 3, 1) := by decide +kernel
theorem dX3_linksOfRelays_13 : decode cX3_linksOfRelays 13 = .ok (.iconst 1, 1) := by decide +kernel
theorem dX3_linksOfRelays_14 : decode cX3_linksOfRelays 14 = .ok (.iadd, 1) := by decide +kernel
theorem dX3_linksOfRelays_15 : decode cX3_linksOfRelays 15 = .ok (.istore 4, 2) := by decide +kernel
theorem dX3_linksOfRelays_17 : decode cX3_linksOfRelays 17 = .ok (.iload 4, 2) := by decide +kernel
theorem dX3_linksOfRelays_19 : decode cX3_linksOfRelays 19 = .ok (.aload_n 0, 1) := by decide +kernel
theorem dX3_linksOfRelays_20 : decode cX3_linksOfRelays 20 = .ok (.iload_n 3, 1) := by decide +kernel
theorem dX3_linksOfRelays_21 : decode cX3_linksOfRelays 21 = .ok (.invokevirtual 110, 3) := by decide +kernel
theorem dX3_linksOfRelays_24 : decode cX3_linksOfRelays 24 = .ok (.if_icmp .ge 23, 3) := by decide +kernel
theorem dX3_linksOfRelays_27 : decode cX3_linksOfRelays 27 = .ok (.aload_n 0, 1) := by decide +kernel
theorem dX3_linksOfRelays_28 : decode cX3_linksOfRelays 28 = .ok (.iload_n 3, 1) := by decide +kernel
theorem dX3_linksOfRelays_29 : decode cX3_linksOfRelays 29 = .ok (.iload 4, 2) := by decide +kernel
theorem dX3_linksOfRelays_31 : decode cX3_linksOfRelays 31 = .ok (.iload_n 1, 1) := by decide +kernel
theorem dX3_linksOfRelays_32 : decode cX3_linksOfRelays 32 = .ok (.invokevirtual 113, 3) := by decide +kernel
theorem dX3_linksOfRelays_35 : decode cX3_linksOfRelays 35 = .ok (.ifCond .eq 6, 3) := by decide +kernel
theorem dX3_linksOfRelays_38 : decode cX3_linksOfRelays 38 = .ok (.iinc 2 1, 3) := by decide +kernel
theorem dX3_linksOfRelays_41 : decode cX3_linksOfRelays 41 = .ok (.iinc 4 1, 3) := by decide +kernel
theorem dX3_linksOfRelays_44 : decode cX3_linksOfRelays 44 = .ok (.goto (-27), 3) := by decide +kernel
theorem dX3_linksOfRelays_47 : decode cX3_linksOfRelays 47 = .ok (.iinc 3 1, 3) := by decide +kernel
theorem dX3_linksOfRelays_50 : decode cX3_linksOfRelays 50 = .ok (.goto (-46), 3) := by decide +kernel
theorem dX3_linksOfRelays_53 : decode cX3_linksOfRelays 53 = .ok (.iload_n 2, 1) := by decide +kernel
theorem dX3_linksOfRelays_54 : decode cX3_linksOfRelays 54 = .ok (.ireturn, 1) := by decide +kernel
theorem dX4_init_0 : decode cX4_init 0 = .ok (.aload_n 0, 1) := by decide +kernel
theorem dX4_init_1 : decode cX4_init 1 = .ok (.invokespecial 3, 3) := by decide +kernel
theorem dX4_init_4 : decode cX4_init 4 = .ok (.aload_n 0, 1) := by decide +kernel
theorem dX4_init_5 : decode cX4_init 5 = .ok (.sipush 1792, 3) := by decide +kernel
theorem dX4_init_8 : decode cX4_init 8 = .ok (.newarray .int, 2) := by decide +kernel
theorem dX4_init_10 : decode cX4_init 10 = .ok (.putfield 9, 3) := by decide +kernel
theorem dX4_init_13 : decode cX4_init 13 = .ok (.aload_n 0, 1) := by decide +kernel
theorem dX4_init_14 : decode cX4_init 14 = .ok (.iconst (-1), 1) := by decide +kernel
theorem dX4_init_15 : decode cX4_init 15 = .ok (.putfield 15, 3) := by decide +kernel
theorem dX4_init_18 : decode cX4_init 18 = .ok (.aload_n 0, 1) := by decide +kernel
theorem dX4_init_19 : decode cX4_init 19 = .ok (.bipush 56, 2) := by decide +kernel
theorem dX4_init_21 : decode cX4_init 21 = .ok (.newarray .int, 2) := by decide +kernel
theorem dX4_init_23 : decode cX4_init 23 = .ok (.putfield 19, 3) := by decide +kernel
theorem dX4_init_26 : decode cX4_init 26 = .ok (.aload_n 0, 1) := by decide +kernel
theorem dX4_init_27 : decode cX4_init 27 = .ok (.bipush 56, 2) := by decide +kernel
theorem dX4_init_29 : decode cX4_init 29 = .ok (.newarray .int, 2) := by decide +kernel
theorem dX4_init_31 : decode cX4_init 31 = .ok (.putfield 22, 3) := by decide +kernel
theorem dX4_init_34 : decode cX4_init 34 = .ok (.aload_n 0, 1) := by decide +kernel
theorem dX4_init_35 : decode cX4_init 35 = .ok (.bipush 56, 2) := by decide +kernel
theorem dX4_init_37 : decode cX4_init 37 = .ok (.newarray .int, 2) := by decide +kernel
theorem dX4_init_39 : decode cX4_init 39 = .ok (.putfield 25, 3) := by decide +kernel
theorem dX4_init_42 : decode cX4_init 42 = .ok (.aload_n 0, 1) := by decide +kernel
theorem dX4_init_43 : decode cX4_init 43 = .ok (.aload_n 1, 1) := by decide +kernel
theorem dX4_init_44 : decode cX4_init 44 = .ok (.putfield 28, 3) := by decide +kernel
theorem dX4_init_47 : decode cX4_init 47 = .ok (.aload_n 0, 1) := by decide +kernel
theorem dX4_init_48 : decode cX4_init 48 = .ok (.iload_n 2, 1) := by decide +kernel
theorem dX4_init_49 : decode cX4_init 49 = .ok (.invokestatic 32, 3) := by decide +kernel
theorem dX4_init_52 : decode cX4_init 52 = .ok (.putfield 36, 3) := by decide +kernel
theorem dX4_init_55 : decode cX4_init 55 = .ok (.return_, 1) := by decide +kernel
theorem dX4_refresh_0 : decode cX4_refresh 0 = .ok (.aload_n 0, 1) := by decide +kernel
theorem dX4_refresh_1 : decode cX4_refresh 1 = .ok (.getfield 15, 3) := by decide +kernel
theorem dX4_refresh_4 : decode cX4_refresh 4 = .ok (.aload_n 0, 1) := by decide +kernel
theorem dX4_refresh_5 : decode cX4_refresh 5 = .ok (.getfield 28, 3) := by decide +kernel
theorem dX4_refresh_8 : decode cX4_refresh 8 = .ok (.getfield 39, 3) := by decide +kernel
theorem dX4_refresh_11 : decode cX4_refresh 11 = .ok (.if_icmp .ne 4, 3) := by decide +kernel
theorem dX4_refresh_14 : decode cX4_refresh 14 = .ok (.return_, 1) := by decide +kernel
theorem dX4_refresh_15 : decode cX4_refresh 15 = .ok (.aload_n 0, 1) := by decide +kernel
theorem dX4_refresh_16 : decode cX4_refresh 16 = .ok (.getfield 9, 3) := by decide +kernel
theorem dX4_refresh_19 : decode cX4_refresh 19 = .ok (.iconst (-1), 1) := by decide +kernel
theorem dX4_refresh_20 : decode cX4_refresh 20 = .ok (.invokestatic 44, 3) := by decide +kernel
theorem dX4_refresh_23 : decode cX4_refresh 23 = .ok (.aload_n 0, 1) := by decide +kernel
theorem dX4_refresh_24 : decode cX4_refresh 24 = .ok (.getfield 19, 3) := by decide +kernel
theorem dX4_refresh_27 : decode cX4_refresh 27 = .ok (.iconst 0, 1) := by decide +kernel
theorem dX4_refresh_28 : decode cX4_refresh 28 = .ok (.invokestatic 44, 3) := by decide +kernel
theorem dX4_refresh_31 : decode cX4_refresh 31 = .ok (.aload_n 0, 1) := by decide +kernel
theorem dX4_refresh_32 : decode cX4_refresh 32 = .ok (.getfield 22, 3) := by decide +kernel
theorem dX4_refresh_35 : decode cX4_refresh 35 = .ok (.iconst 0, 1) := by decide +kernel
theorem dX4_refresh_36 : decode cX4_refresh 36 = .ok (.invokestatic 44, 3) := by decide +kernel
theorem dX4_refresh_39 : decode cX4_refresh 39 = .ok (.iconst 0, 1) := by decide +kernel
theorem dX4_refresh_40 : decode cX4_refresh 40 = .ok (.istore_n 1, 1) := by decide +kernel
theorem dX4_refresh_41 : decode cX4_refresh 41 = .ok (.iconst 1, 1) := by decide +kernel
theorem dX4_refresh_42 : decode cX4_refresh 42 = .ok (.istore_n 2, 1) := by decide +kernel
theorem dX4_refresh_43 : decode cX4_refresh 43 = .ok (.iload_n 2, 1) := by decide +kernel
theorem dX4_refresh_44 : decode cX4_refresh 44 = .ok (.sipush 1666, 3) := by decide +kernel
theorem dX4_refresh_47 : decode cX4_refresh 47 = .ok (.if_icmp .gt 30, 3) := by decide +kernel
theorem dX4_refresh_50 : decode cX4_refresh 50 = .ok (.iload_n 1, 1) := by decide +kernel
theorem dX4_refresh_51 : decode cX4_refresh 51 = .ok (.iconst 2, 1) := by decide +kernel
theorem dX4_refresh_52 : decode cX4_refresh 52 = .ok (.if_icmp .ge 25, 3) := by decide +kernel
theorem dX4_refresh_55 : decode cX4_refresh 55 = .ok (.aload_n 0, 1) := by decide +kernel
theorem dX4_refresh_56 : decode cX4_refresh 56 = .ok (.iload_n 2, 1) := by decide +kernel
theorem dX4_refresh_57 : decode cX4_refresh 57 = .ok (.invokevirtual 50, 3) := by decide +kernel
theorem dX4_refresh_60 : decode cX4_refresh 60 = .ok (.ifCond .eq 7, 3) := by decide +kernel
theorem dX4_refresh_63 : decode cX4_refresh 63 = .ok (.iconst 0, 1) := by decide +kernel
theorem dX4_refresh_64 : decode cX4_refresh 64 = .ok (.goto 6, 3) := by decide +kernel
theorem dX4_refresh_67 : decode cX4_refresh 67 = .ok (.iload_n 1, 1) := by decide +kernel
theorem dX4_refresh_68 : decode cX4_refresh 68 = .ok (.iconst 1, 1) := by decide +kernel
theorem dX4_refresh_69 : decode cX4_refresh 69 = .ok (.iadd, 1) := by decide +kernel
theorem dX4_refresh_70 : decode cX4_refresh 70 = .ok (.istore_n 1, 1) := by decide +kernel
theorem dX4_refresh_71 : decode cX4_refresh 71 = .ok (.iinc 2 1, 3) := by decide +kernel
theorem dX4_refresh_74 : decode cX4_refresh 74 = .ok (.goto (-31), 3) := by decide +kernel
theorem dX4_refresh_77 : decode cX4_refresh 77 = .ok (.aload_n 0, 1) := by decide +kernel
theorem dX4_refresh_78 : decode cX4_refresh 78 = .ok (.aload_n 0, 1) := by decide +kernel
theorem dX4_refresh_79 : decode cX4_refresh 79 = .ok (.getfield 28, 3) := by decide +kernel
theorem dX4_refresh_82 : decode cX4_refresh 82 = .ok (.getfield 39, 3) := by decide +kernel
theorem dX4_refresh_85 : decode cX4_refresh 85 = .ok (.putfield 15, 3) := by decide +kernel
theorem dX4_refresh_88 : decode cX4_refresh 88 = .ok (.return_, 1) := by decide +kernel
theorem dX4_lateness_0 : decode cX4_lateness 0 = .ok (.aload_n 0, 1) := by decide +kernel
theorem dX4_lateness_1 : decode cX4_lateness 1 = .ok (.getfield 9, 3) := by decide +kernel
theorem dX4_lateness_4 : decode cX4_lateness 4 = .ok (.iload_n 1, 1) := by decide +kernel
theorem dX4_lateness_5 : decode cX4_lateness 5 = .ok (.bipush 32, 2) := by decide +kernel
theorem dX4_lateness_7 : decode cX4_lateness 7 = .ok (.imul, 1) := by decide +kernel
theorem dX4_lateness_8 : decode cX4_lateness 8 = .ok (.iload_n 2, 1) := by decide +kernel
theorem dX4_lateness_9 : decode cX4_lateness 9 = .ok (.bipush 31, 2) := by decide +kernel
theorem dX4_lateness_11 : decode cX4_lateness 11 = .ok (.iand, 1) := by decide +kernel
theorem dX4_lateness_12 : decode cX4_lateness 12 = .ok (.iadd, 1) := by decide +kernel
theorem dX4_lateness_13 : decode cX4_lateness 13 = .ok (.iaload, 1) := by decide +kernel
theorem dX4_lateness_14 : decode cX4_lateness 14 = .ok (.ireturn, 1) := by decide +kernel
theorem dX4_extreme_0 : decode cX4_extreme 0 = .ok (.aload_n 0, 1) := by decide +kernel
theorem dX4_extreme_1 : decode cX4_extreme 1 = .ok (.iload_n 1, 1) := by decide +kernel
theorem dX4_extreme_2 : decode cX4_extreme 2 = .ok (.iconst 0, 1) := by decide +kernel
theorem dX4_extreme_3 : decode cX4_extreme 3 = .ok (.invokevirtual 54, 3) := by decide +kernel
theorem dX4_extreme_6 : decode cX4_extreme 6 = .ok (.istore_n 3, 1) := by decide +kernel
theorem dX4_extreme_7 : decode cX4_extreme 7 = .ok (.iconst 0, 1) := by decide +kernel
theorem dX4_extreme_8 : decode cX4_extreme 8 = .ok (.istore 4, 2) := by decide +kernel
theorem dX4_extreme_10 : decode cX4_extreme 10 = .ok (.iload 4, 2) := by decide +kernel
theorem dX4_extreme_12 : decode cX4_extreme 12 = .ok (.bipush 32, 2) := by decide +kernel
theorem dX4_extreme_14 : decode cX4_extreme 14 = .ok (.if_icmp .ge 46, 3) := by decide +kernel
theorem dX4_extreme_17 : decode cX4_extreme 17 = .ok (.aload_n 0, 1) := by decide +kernel
theorem dX4_extreme_18 : decode cX4_extreme 18 = .ok (.iload_n 1, 1) := by decide +kernel
theorem dX4_extreme_19 : decode cX4_extreme 19 = .ok (.iload 4, 2) := by decide +kernel
theorem dX4_extreme_21 : decode cX4_extreme 21 = .ok (.invokevirtual 54, 3) := by decide +kernel
theorem dX4_extreme_24 : decode cX4_extreme 24 = .ok (.istore 5, 2) := by decide +kernel
theorem dX4_extreme_26 : decode cX4_extreme 26 = .ok (.iload 5, 2) := by decide +kernel
theorem dX4_extreme_28 : decode cX4_extreme 28 = .ok (.iconst (-1), 1) := by decide +kernel
theorem dX4_extreme_29 : decode cX4_extreme 29 = .ok (.if_icmp .ne 5, 3) := by decide +kernel
theorem dX4_extreme_32 : decode cX4_extreme 32 = .ok (.iconst (-1), 1) := by decide +kernel
theorem dX4_extreme_33 : decode cX4_extreme 33 = .ok (.ireturn, 1) := by decide +kernel
theorem dX4_extreme_34 : decode cX4_extreme 34 = .ok (.iload_n 2, 1) := by decide +kernel
theorem dX4_extreme_35 : decode cX4_extreme 35 = .ok (.ifCond .eq 12, 3) := by decide +kernel
theorem dX4_extreme_38 : decode cX4_extreme 38 = .ok (.iload_n 3, 1) := by decide +kernel
theorem dX4_extreme_39 : decode cX4_extreme 39 = .ok (.iload 5, 2) := by decide +kernel
theorem dX4_extreme_41 : decode cX4_extreme 41 = .ok (.invokestatic 58, 3) := by decide +kernel
theorem dX4_extreme_44 : decode cX4_extreme 44 = .ok (.goto 9, 3) := by decide +kernel
theorem dX4_extreme_47 : decode cX4_extreme 47 = .ok (.iload_n 3, 1) := by decide +kernel
theorem dX4_extreme_48 : decode cX4_extreme 48 = .ok (.iload 5, 2) := by decide +kernel
theorem dX4_extreme_50 : decode cX4_extreme 50 = .ok (.invokestatic 63, 3) := by decide +kernel
theorem dX4_extreme_53 : decode cX4_extreme 53 = .ok (.istore_n 3, 1) := by decide +kernel
theorem dX4_extreme_54 : decode cX4_extreme 54 = .ok (.iinc 4 1, 3) := by decide +kernel
theorem dX4_extreme_57 : decode cX4_extreme 57 = .ok (.goto (-47), 3) := by decide +kernel
theorem dX4_extreme_60 : decode cX4_extreme 60 = .ok (.iload_n 3, 1) := by decide +kernel
theorem dX4_extreme_61 : decode cX4_extreme 61 = .ok (.ireturn, 1) := by decide +kernel
theorem dX4_grow_0 : decode cX4_grow 0 = .ok (.iconst 0, 1) := by decide +kernel
theorem dX4_grow_1 : decode cX4_grow 1 = .ok (.istore_n 2, 1) := by decide +kernel
theorem dX4_grow_2 : decode cX4_grow 2 = .ok (.iconst 0, 1) := by decide +kernel
theorem dX4_grow_3 : decode cX4_grow 3 = .ok (.istore_n 3, 1) := by decide +kernel
theorem dX4_grow_4 : decode cX4_grow 4 = .ok (.iload_n 3, 1) := by decide +kernel
theorem dX4_grow_5 : decode cX4_grow 5 = .ok (.bipush 56, 2) := by decide +kernel
theorem dX4_grow_7 : decode cX4_grow 7 = .ok (.if_icmp .ge 93, 3) := by decide +kernel
theorem dX4_grow_10 : decode cX4_grow 10 = .ok (.aload_n 0, 1) := by decide +kernel
theorem dX4_grow_11 : decode cX4_grow 11 = .ok (.getfield 19, 3) := by decide +kernel
theorem dX4_grow_14 : decode cX4_grow 14 = .ok (.iload_n 3, 1) := by decide +kernel
theorem dX4_grow_15 : decode cX4_grow 15 = .ok (.iaload, 1) := by decide +kernel
theorem dX4_grow_16 : decode cX4_grow 16 = .ok (.istore 4, 2) := by decide +kernel
theorem dX4_grow_18 : decode cX4_grow 18 = .ok (.iload 4, 2) := by decide +kernel
theorem dX4_grow_20 : decode cX4_grow 20 = .ok (.istore 5, 2) := by decide +kernel
theorem dX4_grow_22 : decode cX4_grow 22 = .ok (.iload 4, 2) := by decide +kernel
theorem dX4_grow_24 : decode cX4_grow 24 = .ok (.iconst (-1), 1) := by decide +kernel
theorem dX4_grow_25 : decode cX4_grow 25 = .ok (.if_icmp .eq 39, 3) := by decide +kernel
theorem dX4_grow_28 : decode cX4_grow 28 = .ok (.iload_n 3, 1) := by decide +kernel
theorem dX4_grow_29 : decode cX4_grow 29 = .ok (.aload_n 0, 1) := by decide +kernel
theorem dX4_grow_30 : decode cX4_grow 30 = .ok (.getfield 36, 3) := by decide +kernel
theorem dX4_grow_33 : decode cX4_grow 33 = .ok (.if_icmp .eq 31, 3) := by decide +kernel
theorem dX4_grow_36 : decode cX4_grow 36 = .ok (.aload_n 0, 1) := by decide +kernel
theorem dX4_grow_37 : decode cX4_grow 37 = .ok (.getfield 28, 3) := by decide +kernel
theorem dX4_grow_40 : decode cX4_grow 40 = .ok (.iload_n 3, 1) := by decide +kernel
theorem dX4_grow_41 : decode cX4_grow 41 = .ok (.invokevirtual 66, 3) := by decide +kernel
theorem dX4_grow_44 : decode cX4_grow 44 = .ok (.ifCond .eq 20, 3) := by decide +kernel
theorem dX4_grow_47 : decode cX4_grow 47 = .ok (.iload 4, 2) := by decide +kernel
theorem dX4_grow_49 : decode cX4_grow 49 = .ok (.iload 4, 2) := by decide +kernel
theorem dX4_grow_51 : decode cX4_grow 51 = .ok (.iconst 1, 1) := by decide +kernel
theorem dX4_grow_52 : decode cX4_grow 52 = .ok (.invokestatic 69, 3) := by decide +kernel
theorem dX4_grow_55 : decode cX4_grow 55 = .ok (.ior, 1) := by decide +kernel
theorem dX4_grow_56 : decode cX4_grow 56 = .ok (.aload_n 0, 1) := by decide +kernel
theorem dX4_grow_57 : decode cX4_grow 57 = .ok (.iload_n 3, 1) := by decide +kernel
theorem dX4_grow_58 : decode cX4_grow 58 = .ok (.invokevirtual 72, 3) := by decide +kernel
theorem dX4_grow_61 : decode cX4_grow 61 = .ok (.ior, 1) := by decide +kernel
theorem dX4_grow_62 : decode cX4_grow 62 = .ok (.istore 5, 2) := by decide +kernel
theorem dX4_grow_64 : decode cX4_grow 64 = .ok (.aload_n 0, 1) := by decide +kernel
theorem dX4_grow_65 : decode cX4_grow 65 = .ok (.getfield 25, 3) := by decide +kernel
theorem dX4_grow_68 : decode cX4_grow 68 = .ok (.iload_n 3, 1) := by decide +kernel
theorem dX4_grow_69 : decode cX4_grow 69 = .ok (.iload 5, 2) := by decide +kernel
theorem dX4_grow_71 : decode cX4_grow 71 = .ok (.iastore, 1) := by decide +kernel
theorem dX4_grow_72 : decode cX4_grow 72 = .ok (.iload 5, 2) := by decide +kernel
theorem dX4_grow_74 : decode cX4_grow 74 = .ok (.iload 4, 2) := by decide +kernel
theorem dX4_grow_76 : decode cX4_grow 76 = .ok (.if_icmp .eq 18, 3) := by decide +kernel
theorem dX4_grow_79 : decode cX4_grow 79 = .ok (.aload_n 0, 1) := by decide +kernel
theorem dX4_grow_80 : decode cX4_grow 80 = .ok (.iload_n 3, 1) := by decide +kernel
theorem dX4_grow_81 : decode cX4_grow 81 = .ok (.iload 5, 2) := by decide +kernel
theorem dX4_grow_83 : decode cX4_grow 83 = .ok (.iload 4, 2) := by decide +kernel
theorem dX4_grow_85 : decode cX4_grow 85 = .ok (.iconst (-1), 1) := by decide +kernel
theorem dX4_grow_86 : decode cX4_grow 86 = .ok (.ixor, 1) := by decide +kernel
theorem dX4_grow_87 : decode cX4_grow 87 = .ok (.iand, 1) := by decide +kernel
theorem dX4_grow_88 : decode cX4_grow 88 = .ok (.iload_n 1, 1) := by decide +kernel
theorem dX4_grow_89 : decode cX4_grow 89 = .ok (.invokevirtual 75, 3) := by decide +kernel
theorem dX4_grow_92 : decode cX4_grow 92 = .ok (.iconst 1, 1) := by decide +kernel
theorem dX4_grow_93 : decode cX4_grow 93 = .ok (.istore_n 2, 1) := by decide +kernel
theorem dX4_grow_94 : decode cX4_grow 94 = .ok (.iinc 3 1, 3) := by decide +kernel
theorem dX4_grow_97 : decode cX4_grow 97 = .ok (.goto (-93), 3) := by decide +kernel
theorem dX4_grow_100 : decode cX4_grow 100 = .ok (.aload_n 0, 1) := by decide +kernel
theorem dX4_grow_101 : decode cX4_grow 101 = .ok (.getfield 22, 3) := by decide +kernel
theorem dX4_grow_104 : decode cX4_grow 104 = .ok (.astore_n 3, 1) := by decide +kernel
theorem dX4_grow_105 : decode cX4_grow 105 = .ok (.aload_n 0, 1) := by decide +kernel
theorem dX4_grow_106 : decode cX4_grow 106 = .ok (.aload_n 0, 1) := by decide +kernel
theorem dX4_grow_107 : decode cX4_grow 107 = .ok (.getfield 19, 3) := by decide +kernel
theorem dX4_grow_110 : decode cX4_grow 110 = .ok (.putfield 22, 3) := by decide +kernel
theorem dX4_grow_113 : decode cX4_grow 113 = .ok (.aload_n 0, 1) := by decide +kernel
theorem dX4_grow_114 : decode cX4_grow 114 = .ok (.aload_n 0, 1) := by decide +kernel
theorem dX4_grow_115 : decode cX4_grow 115 = .ok (.getfield 25, 3) := by decide +kernel
theorem dX4_grow_118 : decode cX4_grow 118 = .ok (.putfield 19, 3) := by decide +kernel
theorem dX4_grow_121 : decode cX4_grow 121 = .ok (.aload_n 0, 1) := by decide +kernel
theorem dX4_grow_122 : decode cX4_grow 122 = .ok (.aload_n 3, 1) := by decide +kernel
theorem dX4_grow_123 : decode cX4_grow 123 = .ok (.putfield 25, 3) := by decide +kernel
theorem dX4_grow_126 : decode cX4_grow 126 = .ok (.iload_n 2, 1) := by decide +kernel
theorem dX4_grow_127 : decode cX4_grow 127 = .ok (.ireturn, 1) := by decide +kernel
theorem dX4_overLinks_0 : decode cX4_overLinks 0 = .ok (.iload_n 1, 1) := by decide +kernel
theorem dX4_overLinks_1 : decode cX4_overLinks 1 = .ok (.invokestatic 79, 3) := by decide +kernel
theorem dX4_overLinks_4 : decode cX4_overLinks 4 = .ok (.ifCond .eq 18, 3) := by decide +kernel
theorem dX4_overLinks_7 : decode cX4_overLinks 7 = .ok (.aload_n 0, 1) := by decide +kernel
theorem dX4_overLinks_8 : decode cX4_overLinks 8 = .ok (.getfield 28, 3) := by decide +kernel
theorem dX4_overLinks_11 : decode cX4_overLinks 11 = .ok (.aload_n 0, 1) := by decide +kernel
theorem dX4_overLinks_12 : decode cX4_overLinks 12 = .ok (.getfield 36, 3) := by decide +kernel
theorem dX4_overLinks_15 : decode cX4_overLinks 15 = .ok (.iload_n 1, 1) := by decide +kernel
theorem dX4_overLinks_16 : decode cX4_overLinks 16 = .ok (.invokevirtual 82, 3) := by decide +kernel
theorem dX4_overLinks_19 : decode cX4_overLinks 19 = .ok (.goto 4, 3) := by decide +kernel
theorem dX4_overLinks_22 : decode cX4_overLinks 22 = .ok (.iconst 0, 1) := by decide +kernel
theorem dX4_overLinks_23 : decode cX4_overLinks 23 = .ok (.istore_n 2, 1) := by decide +kernel
theorem dX4_overLinks_24 : decode cX4_overLinks 24 = .ok (.aload_n 0, 1) := by decide +kernel
theorem dX4_overLinks_25 : decode cX4_overLinks 25 = .ok (.getfield 28, 3) := by decide +kernel
theorem dX4_overLinks_28 : decode cX4_overLinks 28 = .ok (.iload_n 1, 1) := by decide +kernel
theorem dX4_overLinks_29 : decode cX4_overLinks 29 = .ok (.invokevirtual 85, 3) := by decide +kernel
theorem dX4_overLinks_32 : decode cX4_overLinks 32 = .ok (.istore_n 3, 1) := by decide +kernel
theorem dX4_overLinks_33 : decode cX4_overLinks 33 = .ok (.aload_n 0, 1) := by decide +kernel
theorem dX4_overLinks_34 : decode cX4_overLinks 34 = .ok (.getfield 28, 3) := by decide +kernel
theorem dX4_overLinks_37 : decode cX4_overLinks 37 = .ok (.iload_n 1, 1) := by decide +kernel
theorem dX4_overLinks_38 : decode cX4_overLinks 38 = .ok (.invokevirtual 88, 3) := by decide +kernel
theorem dX4_overLinks_41 : decode cX4_overLinks 41 = .ok (.istore 4, 2) := by decide +kernel
theorem dX4_overLinks_43 : decode cX4_overLinks 43 = .ok (.iload 4, 2) := by decide +kernel
theorem dX4_overLinks_45 : decode cX4_overLinks 45 = .ok (.iload_n 3, 1) := by decide +kernel
theorem dX4_overLinks_46 : decode cX4_overLinks 46 = .ok (.if_icmp .ge 84, 3) := by decide +kernel
theorem dX4_overLinks_49 : decode cX4_overLinks 49 = .ok (.aload_n 0, 1) := by decide +kernel
theorem dX4_overLinks_50 : decode cX4_overLinks 50 = .ok (.getfield 19, 3) := by decide +kernel
theorem dX4_overLinks_53 : decode cX4_overLinks 53 = .ok (.iload 4, 2) := by decide +kernel
theorem dX4_overLinks_55 : decode cX4_overLinks 55 = .ok (.iaload, 1) := by decide +kernel
theorem dX4_overLinks_56 : decode cX4_overLinks 56 = .ok (.ifCond .ne 6, 3) := by decide +kernel
theorem dX4_overLinks_59 : decode cX4_overLinks 59 = .ok (.goto 65, 3) := by decide +kernel
theorem dX4_overLinks_62 : decode cX4_overLinks 62 = .ok (.aload_n 0, 1) := by decide +kernel
theorem dX4_overLinks_63 : decode cX4_overLinks 63 = .ok (.getfield 28, 3) := by decide +kernel
theorem dX4_overLinks_66 : decode cX4_overLinks 66 = .ok (.iload_n 1, 1) := by decide +kernel
theorem dX4_overLinks_67 : decode cX4_overLinks 67 = .ok (.iload 4, 2) := by decide +kernel
theorem dX4_overLinks_69 : decode cX4_overLinks 69 = .ok (.invokevirtual 82, 3) := by decide +kernel
theorem dX4_overLinks_72 : decode cX4_overLinks 72 = .ok (.istore 5, 2) := by decide +kernel
theorem dX4_overLinks_74 : decode cX4_overLinks 74 = .ok (.iload 5, 2) := by decide +kernel
theorem dX4_overLinks_76 : decode cX4_overLinks 76 = .ok (.ifCond .eq 48, 3) := by decide +kernel
theorem dX4_overLinks_79 : decode cX4_overLinks 79 = .ok (.iload_n 2, 1) := by decide +kernel
theorem dX4_overLinks_80 : decode cX4_overLinks 80 = .ok (.iload 5, 2) := by decide +kernel
theorem dX4_overLinks_82 : decode cX4_overLinks 82 = .ok (.aload_n 0, 1) := by decide +kernel
theorem dX4_overLinks_83 : decode cX4_overLinks 83 = .ok (.getfield 28, 3) := by decide +kernel
theorem dX4_overLinks_86 : decode cX4_overLinks 86 = .ok (.iload_n 1, 1) := by decide +kernel
theorem dX4_overLinks_87 : decode cX4_overLinks 87 = .ok (.iload 4, 2) := by decide +kernel
theorem dX4_overLinks_89 : decode cX4_overLinks 89 = .ok (.invokevirtual 91, 3) := by decide +kernel
theorem dX4_overLinks_92 : decode cX4_overLinks 92 = .ok (.iconst 2, 1) := by decide +kernel
theorem dX4_overLinks_93 : decode cX4_overLinks 93 = .ok (.if_icmp .ne 17, 3) := by decide +kernel
theorem dX4_overLinks_96 : decode cX4_overLinks 96 = .ok (.aload_n 0, 1) := by decide +kernel
theorem dX4_overLinks_97 : decode cX4_overLinks 97 = .ok (.getfield 22, 3) := by decide +kernel
theorem dX4_overLinks_100 : decode cX4_overLinks 100 = .ok (.iload 4, 2) := by decide +kernel
theorem dX4_overLinks_102 : decode cX4_overLinks 102 = .ok (.iaload, 1) := by decide +kernel
theorem dX4_overLinks_103 : decode cX4_overLinks 103 = .ok (.iconst 2, 1) := by decide +kernel
theorem dX4_overLinks_104 : decode cX4_overLinks 104 = .ok (.invokestatic 69, 3) := by decide +kernel
theorem dX4_overLinks_107 : decode cX4_overLinks 107 = .ok (.goto 14, 3) := by decide +kernel
theorem dX4_overLinks_110 : decode cX4_overLinks 110 = .ok (.aload_n 0, 1) := by decide +kernel
theorem dX4_overLinks_111 : decode cX4_overLinks 111 = .ok (.getfield 19, 3) := by decide +kernel
theorem dX4_overLinks_114 : decode cX4_overLinks 114 = .ok (.iload 4, 2) := by decide +kernel
theorem dX4_overLinks_116 : decode cX4_overLinks 116 = .ok (.iaload, 1) := by decide +kernel
theorem dX4_overLinks_117 : decode cX4_overLinks 117 = .ok (.iconst 1, 1) := by decide +kernel
theorem dX4_overLinks_118 : decode cX4_overLinks 118 = .ok (.invokestatic 69, 3) := by decide +kernel
theorem dX4_overLinks_121 : decode cX4_overLinks 121 = .ok (.iand, 1) := by decide +kernel
theorem dX4_overLinks_122 : decode cX4_overLinks 122 = .ok (.ior, 1) := by decide +kernel
theorem dX4_overLinks_123 : decode cX4_overLinks 123 = .ok (.istore_n 2, 1) := by decide +kernel
theorem dX4_overLinks_124 : decode cX4_overLinks 124 = .ok (.iinc 4 1, 3) := by decide +kernel
theorem dX4_overLinks_127 : decode cX4_overLinks 127 = .ok (.goto (-84), 3) := by decide +kernel
theorem dX4_overLinks_130 : decode cX4_overLinks 130 = .ok (.iload_n 2, 1) := by decide +kernel
theorem dX4_overLinks_131 : decode cX4_overLinks 131 = .ok (.ireturn, 1) := by decide +kernel
theorem dX4_note_0 : decode cX4_note 0 = .ok (.iconst 0, 1) := by decide +kernel
theorem dX4_note_1 : decode cX4_note 1 = .ok (.istore 4, 2) := by decide +kernel
theorem dX4_note_3 : decode cX4_note 3 = .ok (.iload 4, 2) := by decide +kernel
theorem dX4_note_5 : decode cX4_note 5 = .ok (.bipush 32, 2) := by decide +kernel
theorem dX4_note_7 : decode cX4_note 7 = .ok (.if_icmp .ge 31, 3) := by decide +kernel
theorem dX4_note_10 : decode cX4_note 10 = .ok (.iload_n 2, 1) := by decide +kernel
theorem dX4_note_11 : decode cX4_note 11 = .ok (.iload 4, 2) := by decide +kernel
theorem dX4_note_13 : decode cX4_note 13 = .ok (.iushr, 1) := by decide +kernel
theorem dX4_note_14 : decode cX4_note 14 = .ok (.iconst 1, 1) := by decide +kernel
theorem dX4_note_15 : decode cX4_note 15 = .ok (.iand, 1) := by decide +kernel
theorem dX4_note_16 : decode cX4_note 16 = .ok (.ifCond .eq 16, 3) := by decide +kernel
theorem dX4_note_19 : decode cX4_note 19 = .ok (.aload_n 0, 1) := by decide +kernel
theorem dX4_note_20 : decode cX4_note 20 = .ok (.getfield 9, 3) := by decide +kernel
theorem dX4_note_23 : decode cX4_note 23 = .ok (.iload_n 1, 1) := by decide +kernel
theorem dX4_note_24 : decode cX4_note 24 = .ok (.bipush 32, 2) := by decide +kernel
theorem dX4_note_26 : decode cX4_note 26 = .ok (.imul, 1) := by decide +kernel
theorem dX4_note_27 : decode cX4_note 27 = .ok (.iload 4, 2) := by decide +kernel
theorem dX4_note_29 : decode cX4_note 29 = .ok (.iadd, 1) := by decide +kernel
theorem dX4_note_30 : decode cX4_note 30 = .ok (.iload_n 3, 1) := by decide +kernel
theorem dX4_note_31 : decode cX4_note 31 = .ok (.iastore, 1) := by decide +kernel
theorem dX4_note_32 : decode cX4_note 32 = .ok (.iinc 4 1, 3) := by decide +kernel
theorem dX4_note_35 : decode cX4_note 35 = .ok (.goto (-32), 3) := by decide +kernel
theorem dX4_note_38 : decode cX4_note 38 = .ok (.return_, 1) := by decide +kernel
