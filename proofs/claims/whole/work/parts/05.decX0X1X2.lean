theorem dX0_init_0 : decode cX0_init 0 = .ok (.aload_n 0, 1) := by decide +kernel
theorem dX0_init_1 : decode cX0_init 1 = .ok (.invokespecial 3, 3) := by decide +kernel
theorem dX0_init_4 : decode cX0_init 4 = .ok (.aload_n 0, 1) := by decide +kernel
theorem dX0_init_5 : decode cX0_init 5 = .ok (.bipush 48, 2) := by decide +kernel
theorem dX0_init_7 : decode cX0_init 7 = .ok (.newarray .long, 2) := by decide +kernel
theorem dX0_init_9 : decode cX0_init 9 = .ok (.putfield 9, 3) := by decide +kernel
theorem dX0_init_12 : decode cX0_init 12 = .ok (.aload_n 0, 1) := by decide +kernel
theorem dX0_init_13 : decode cX0_init 13 = .ok (.bipush 48, 2) := by decide +kernel
theorem dX0_init_15 : decode cX0_init 15 = .ok (.newarray .long, 2) := by decide +kernel
theorem dX0_init_17 : decode cX0_init 17 = .ok (.putfield 15, 3) := by decide +kernel
theorem dX0_init_20 : decode cX0_init 20 = .ok (.aload_n 0, 1) := by decide +kernel
theorem dX0_init_21 : decode cX0_init 21 = .ok (.bipush 96, 2) := by decide +kernel
theorem dX0_init_23 : decode cX0_init 23 = .ok (.newarray .int, 2) := by decide +kernel
theorem dX0_init_25 : decode cX0_init 25 = .ok (.putfield 18, 3) := by decide +kernel
theorem dX0_init_28 : decode cX0_init 28 = .ok (.aload_n 0, 1) := by decide +kernel
theorem dX0_init_29 : decode cX0_init 29 = .ok (.bipush 96, 2) := by decide +kernel
theorem dX0_init_31 : decode cX0_init 31 = .ok (.newarray .int, 2) := by decide +kernel
theorem dX0_init_33 : decode cX0_init 33 = .ok (.putfield 22, 3) := by decide +kernel
theorem dX0_init_36 : decode cX0_init 36 = .ok (.aload_n 0, 1) := by decide +kernel
theorem dX0_init_37 : decode cX0_init 37 = .ok (.aload_n 1, 1) := by decide +kernel
theorem dX0_init_38 : decode cX0_init 38 = .ok (.putfield 25, 3) := by decide +kernel
theorem dX0_init_41 : decode cX0_init 41 = .ok (.return_, 1) := by decide +kernel
theorem dX0_size_0 : decode cX0_size 0 = .ok (.iconst 0, 1) := by decide +kernel
theorem dX0_size_1 : decode cX0_size 1 = .ok (.istore 4, 2) := by decide +kernel
theorem dX0_size_3 : decode cX0_size 3 = .ok (.iload 4, 2) := by decide +kernel
theorem dX0_size_5 : decode cX0_size 5 = .ok (.aload_n 0, 1) := by decide +kernel
theorem dX0_size_6 : decode cX0_size 6 = .ok (.getfield 25, 3) := by decide +kernel
theorem dX0_size_9 : decode cX0_size 9 = .ok (.getfield 29, 3) := by decide +kernel
theorem dX0_size_12 : decode cX0_size 12 = .ok (.if_icmp .ge 31, 3) := by decide +kernel
theorem dX0_size_15 : decode cX0_size 15 = .ok (.aload_n 0, 1) := by decide +kernel
theorem dX0_size_16 : decode cX0_size 16 = .ok (.getfield 9, 3) := by decide +kernel
theorem dX0_size_19 : decode cX0_size 19 = .ok (.iload 4, 2) := by decide +kernel
theorem dX0_size_21 : decode cX0_size 21 = .ok (.aload_n 0, 1) := by decide +kernel
theorem dX0_size_22 : decode cX0_size 22 = .ok (.iload 4, 2) := by decide +kernel
theorem dX0_size_24 : decode cX0_size 24 = .ok (.iload_n 3, 1) := by decide +kernel
theorem dX0_size_25 : decode cX0_size 25 = .ok (.invokevirtual 35, 3) := by decide +kernel
theorem dX0_size_28 : decode cX0_size 28 = .ok (.lastore, 1) := by decide +kernel
theorem dX0_size_29 : decode cX0_size 29 = .ok (.aload_n 0, 1) := by decide +kernel
theorem dX0_size_30 : decode cX0_size 30 = .ok (.getfield 15, 3) := by decide +kernel
theorem dX0_size_33 : decode cX0_size 33 = .ok (.iload 4, 2) := by decide +kernel
theorem dX0_size_35 : decode cX0_size 35 = .ok (.lconst 0, 1) := by decide +kernel
theorem dX0_size_36 : decode cX0_size 36 = .ok (.lastore, 1) := by decide +kernel
theorem dX0_size_37 : decode cX0_size 37 = .ok (.iinc 4 1, 3) := by decide +kernel
theorem dX0_size_40 : decode cX0_size 40 = .ok (.goto (-37), 3) := by decide +kernel
theorem dX0_size_43 : decode cX0_size 43 = .ok (.aload_n 0, 1) := by decide +kernel
theorem dX0_size_44 : decode cX0_size 44 = .ok (.lconst 0, 1) := by decide +kernel
theorem dX0_size_45 : decode cX0_size 45 = .ok (.putfield 39, 3) := by decide +kernel
theorem dX0_size_48 : decode cX0_size 48 = .ok (.aload_n 0, 1) := by decide +kernel
theorem dX0_size_49 : decode cX0_size 49 = .ok (.iload_n 1, 1) := by decide +kernel
theorem dX0_size_50 : decode cX0_size 50 = .ok (.iload_n 3, 1) := by decide +kernel
theorem dX0_size_51 : decode cX0_size 51 = .ok (.invokevirtual 35, 3) := by decide +kernel
theorem dX0_size_54 : decode cX0_size 54 = .ok (.lstore 4, 2) := by decide +kernel
theorem dX0_size_56 : decode cX0_size 56 = .ok (.aload_n 0, 1) := by decide +kernel
theorem dX0_size_57 : decode cX0_size 57 = .ok (.iload_n 2, 1) := by decide +kernel
theorem dX0_size_58 : decode cX0_size 58 = .ok (.iload_n 3, 1) := by decide +kernel
theorem dX0_size_59 : decode cX0_size 59 = .ok (.invokevirtual 35, 3) := by decide +kernel
theorem dX0_size_62 : decode cX0_size 62 = .ok (.lstore 6, 2) := by decide +kernel
theorem dX0_size_64 : decode cX0_size 64 = .ok (.iconst 0, 1) := by decide +kernel
theorem dX0_size_65 : decode cX0_size 65 = .ok (.istore 8, 2) := by decide +kernel
theorem dX0_size_67 : decode cX0_size 67 = .ok (.iload 8, 2) := by decide +kernel
theorem dX0_size_69 : decode cX0_size 69 = .ok (.bipush 48, 2) := by decide +kernel
theorem dX0_size_71 : decode cX0_size 71 = .ok (.if_icmp .ge 34, 3) := by decide +kernel
theorem dX0_size_74 : decode cX0_size 74 = .ok (.aload_n 0, 1) := by decide +kernel
theorem dX0_size_75 : decode cX0_size 75 = .ok (.lload 4, 2) := by decide +kernel
theorem dX0_size_77 : decode cX0_size 77 = .ok (.lload 6, 2) := by decide +kernel
theorem dX0_size_79 : decode cX0_size 79 = .ok (.invokevirtual 43, 3) := by decide +kernel
theorem dX0_size_82 : decode cX0_size 82 = .ok (.istore 9, 2) := by decide +kernel
theorem dX0_size_84 : decode cX0_size 84 = .ok (.iload 9, 2) := by decide +kernel
theorem dX0_size_86 : decode cX0_size 86 = .ok (.iconst (-1), 1) := by decide +kernel
theorem dX0_size_87 : decode cX0_size 87 = .ok (.if_icmp .ne 6, 3) := by decide +kernel
theorem dX0_size_90 : decode cX0_size 90 = .ok (.iload 8, 2) := by decide +kernel
theorem dX0_size_92 : decode cX0_size 92 = .ok (.ireturn, 1) := by decide +kernel
theorem dX0_size_93 : decode cX0_size 93 = .ok (.aload_n 0, 1) := by decide +kernel
theorem dX0_size_94 : decode cX0_size 94 = .ok (.iload 9, 2) := by decide +kernel
theorem dX0_size_96 : decode cX0_size 96 = .ok (.invokevirtual 47, 3) := by decide +kernel
theorem dX0_size_99 : decode cX0_size 99 = .ok (.iinc 8 1, 3) := by decide +kernel
theorem dX0_size_102 : decode cX0_size 102 = .ok (.goto (-35), 3) := by decide +kernel
theorem dX0_size_105 : decode cX0_size 105 = .ok (.bipush 48, 2) := by decide +kernel
theorem dX0_size_107 : decode cX0_size 107 = .ok (.ireturn, 1) := by decide +kernel
theorem dX0_relaysNear_0 : decode cX0_relaysNear 0 = .ok (.lconst 0, 1) := by decide +kernel
theorem dX0_relaysNear_1 : decode cX0_relaysNear 1 = .ok (.lstore_n 3, 1) := by decide +kernel
theorem dX0_relaysNear_2 : decode cX0_relaysNear 2 = .ok (.aload_n 0, 1) := by decide +kernel
theorem dX0_relaysNear_3 : decode cX0_relaysNear 3 = .ok (.getfield 25, 3) := by decide +kernel
theorem dX0_relaysNear_6 : decode cX0_relaysNear 6 = .ok (.iload_n 1, 1) := by decide +kernel
theorem dX0_relaysNear_7 : decode cX0_relaysNear 7 = .ok (.invokevirtual 51, 3) := by decide +kernel
theorem dX0_relaysNear_10 : decode cX0_relaysNear 10 = .ok (.istore 5, 2) := by decide +kernel
theorem dX0_relaysNear_12 : decode cX0_relaysNear 12 = .ok (.aload_n 0, 1) := by decide +kernel
theorem dX0_relaysNear_13 : decode cX0_relaysNear 13 = .ok (.getfield 25, 3) := by decide +kernel
theorem dX0_relaysNear_16 : decode cX0_relaysNear 16 = .ok (.iload_n 1, 1) := by decide +kernel
theorem dX0_relaysNear_17 : decode cX0_relaysNear 17 = .ok (.invokevirtual 55, 3) := by decide +kernel
theorem dX0_relaysNear_20 : decode cX0_relaysNear 20 = .ok (.istore 6, 2) := by decide +kernel
theorem dX0_relaysNear_22 : decode cX0_relaysNear 22 = .ok (.iload 6, 2) := by decide +kernel
theorem dX0_relaysNear_24 : decode cX0_relaysNear 24 = .ok (.iload 5, 2) := by decide +kernel
theorem dX0_relaysNear_26 : decode cX0_relaysNear 26 = .ok (.if_icmp .ge 31, 3) := by decide +kernel
theorem dX0_relaysNear_29 : decode cX0_relaysNear 29 = .ok (.aload_n 0, 1) := by decide +kernel
theorem dX0_relaysNear_30 : decode cX0_relaysNear 30 = .ok (.getfield 25, 3) := by decide +kernel
theorem dX0_relaysNear_33 : decode cX0_relaysNear 33 = .ok (.iload_n 1, 1) := by decide +kernel
theorem dX0_relaysNear_34 : decode cX0_relaysNear 34 = .ok (.iload 6, 2) := by decide +kernel
theorem dX0_relaysNear_36 : decode cX0_relaysNear 36 = .ok (.iload_n 2, 1) := by decide +kernel
theorem dX0_relaysNear_37 : decode cX0_relaysNear 37 = .ok (.invokevirtual 58, 3) := by decide +kernel
theorem dX0_relaysNear_40 : decode cX0_relaysNear 40 = .ok (.ifCond .eq 11, 3) := by decide +kernel
theorem dX0_relaysNear_43 : decode cX0_relaysNear 43 = .ok (.lload_n 3, 1) := by decide +kernel
theorem dX0_relaysNear_44 : decode cX0_relaysNear 44 = .ok (.iload 6, 2) := by decide +kernel
theorem dX0_relaysNear_46 : decode cX0_relaysNear 46 = .ok (.invokestatic 62, 3) := by decide +kernel
theorem dX0_relaysNear_49 : decode cX0_relaysNear 49 = .ok (.lor, 1) := by decide +kernel
theorem dX0_relaysNear_50 : decode cX0_relaysNear 50 = .ok (.lstore_n 3, 1) := by decide +kernel
theorem dX0_relaysNear_51 : decode cX0_relaysNear 51 = .ok (.iinc 6 1, 3) := by decide +kernel
theorem dX0_relaysNear_54 : decode cX0_relaysNear 54 = .ok (.goto (-32), 3) := by decide +kernel
theorem dX0_relaysNear_57 : decode cX0_relaysNear 57 = .ok (.lload_n 3, 1) := by decide +kernel
theorem dX0_relaysNear_58 : decode cX0_relaysNear 58 = .ok (.lreturn, 1) := by decide +kernel
theorem dX0_search_0 : decode cX0_search 0 = .ok (.aload_n 0, 1) := by decide +kernel
theorem dX0_search_1 : decode cX0_search 1 = .ok (.getfield 18, 3) := by decide +kernel
theorem dX0_search_4 : decode cX0_search 4 = .ok (.iconst (-1), 1) := by decide +kernel
theorem dX0_search_5 : decode cX0_search 5 = .ok (.invokestatic 66, 3) := by decide +kernel
theorem dX0_search_8 : decode cX0_search 8 = .ok (.aload_n 0, 1) := by decide +kernel
theorem dX0_search_9 : decode cX0_search 9 = .ok (.iconst 0, 1) := by decide +kernel
theorem dX0_search_10 : decode cX0_search 10 = .ok (.putfield 72, 3) := by decide +kernel
theorem dX0_search_13 : decode cX0_search 13 = .ok (.iconst 0, 1) := by decide +kernel
theorem dX0_search_14 : decode cX0_search 14 = .ok (.istore 5, 2) := by decide +kernel
theorem dX0_search_16 : decode cX0_search 16 = .ok (.iload 5, 2) := by decide +kernel
theorem dX0_search_18 : decode cX0_search 18 = .ok (.aload_n 0, 1) := by decide +kernel
theorem dX0_search_19 : decode cX0_search 19 = .ok (.getfield 25, 3) := by decide +kernel
theorem dX0_search_22 : decode cX0_search 22 = .ok (.getfield 29, 3) := by decide +kernel
theorem dX0_search_25 : decode cX0_search 25 = .ok (.if_icmp .ge 32, 3) := by decide +kernel
theorem dX0_search_28 : decode cX0_search 28 = .ok (.lload_n 1, 1) := by decide +kernel
theorem dX0_search_29 : decode cX0_search 29 = .ok (.iload 5, 2) := by decide +kernel
theorem dX0_search_31 : decode cX0_search 31 = .ok (.invokestatic 62, 3) := by decide +kernel
theorem dX0_search_34 : decode cX0_search 34 = .ok (.land, 1) := by decide +kernel
theorem dX0_search_35 : decode cX0_search 35 = .ok (.lconst 0, 1) := by decide +kernel
theorem dX0_search_36 : decode cX0_search 36 = .ok (.lcmp, 1) := by decide +kernel
theorem dX0_search_37 : decode cX0_search 37 = .ok (.ifCond .eq 14, 3) := by decide +kernel
theorem dX0_search_40 : decode cX0_search 40 = .ok (.aload_n 0, 1) := by decide +kernel
theorem dX0_search_41 : decode cX0_search 41 = .ok (.iload 5, 2) := by decide +kernel
theorem dX0_search_43 : decode cX0_search 43 = .ok (.invokestatic 75, 3) := by decide +kernel
theorem dX0_search_46 : decode cX0_search 46 = .ok (.bipush (-2), 2) := by decide +kernel
theorem dX0_search_48 : decode cX0_search 48 = .ok (.invokevirtual 78, 3) := by decide +kernel
theorem dX0_search_51 : decode cX0_search 51 = .ok (.iinc 5 1, 3) := by decide +kernel
theorem dX0_search_54 : decode cX0_search 54 = .ok (.goto (-38), 3) := by decide +kernel
theorem dX0_search_57 : decode cX0_search 57 = .ok (.iconst 0, 1) := by decide +kernel
theorem dX0_search_58 : decode cX0_search 58 = .ok (.istore 5, 2) := by decide +kernel
theorem dX0_search_60 : decode cX0_search 60 = .ok (.iload 5, 2) := by decide +kernel
theorem dX0_search_62 : decode cX0_search 62 = .ok (.aload_n 0, 1) := by decide +kernel
theorem dX0_search_63 : decode cX0_search 63 = .ok (.getfield 72, 3) := by decide +kernel
theorem dX0_search_66 : decode cX0_search 66 = .ok (.if_icmp .ge 74, 3) := by decide +kernel
theorem dX0_search_69 : decode cX0_search 69 = .ok (.iload 5, 2) := by decide +kernel
theorem dX0_search_71 : decode cX0_search 71 = .ok (.bipush 96, 2) := by decide +kernel
theorem dX0_search_73 : decode cX0_search 73 = .ok (.if_icmp .ge 67, 3) := by decide +kernel
theorem dX0_search_76 : decode cX0_search 76 = .ok (.aload_n 0, 1) := by decide +kernel
theorem dX0_search_77 : decode cX0_search 77 = .ok (.getfield 22, 3) := by decide +kernel
theorem dX0_search_80 : decode cX0_search 80 = .ok (.iload 5, 2) := by decide +kernel
theorem dX0_search_82 : decode cX0_search 82 = .ok (.iaload, 1) := by decide +kernel
theorem dX0_search_83 : decode cX0_search 83 = .ok (.istore 6, 2) := by decide +kernel
theorem dX0_search_85 : decode cX0_search 85 = .ok (.iload 6, 2) := by decide +kernel
theorem dX0_search_87 : decode cX0_search 87 = .ok (.invokestatic 82, 3) := by decide +kernel
theorem dX0_search_90 : decode cX0_search 90 = .ok (.ifCond .eq 21, 3) := by decide +kernel
theorem dX0_search_93 : decode cX0_search 93 = .ok (.lload_n 3, 1) := by decide +kernel
theorem dX0_search_94 : decode cX0_search 94 = .ok (.iload 6, 2) := by decide +kernel
theorem dX0_search_96 : decode cX0_search 96 = .ok (.invokestatic 86, 3) := by decide +kernel
theorem dX0_search_99 : decode cX0_search 99 = .ok (.invokestatic 62, 3) := by decide +kernel
theorem dX0_search_102 : decode cX0_search 102 = .ok (.land, 1) := by decide +kernel
theorem dX0_search_103 : decode cX0_search 103 = .ok (.lconst 0, 1) := by decide +kernel
theorem dX0_search_104 : decode cX0_search 104 = .ok (.lcmp, 1) := by decide +kernel
theorem dX0_search_105 : decode cX0_search 105 = .ok (.ifCond .eq 6, 3) := by decide +kernel
theorem dX0_search_108 : decode cX0_search 108 = .ok (.iload 6, 2) := by decide +kernel
theorem dX0_search_110 : decode cX0_search 110 = .ok (.ireturn, 1) := by decide +kernel
theorem dX0_search_111 : decode cX0_search 111 = .ok (.iload 6, 2) := by decide +kernel
theorem dX0_search_113 : decode cX0_search 113 = .ok (.invokestatic 82, 3) := by decide +kernel
theorem dX0_search_116 : decode cX0_search 116 = .ok (.ifCond .eq 12, 3) := by decide +kernel
theorem dX0_search_119 : decode cX0_search 119 = .ok (.aload_n 0, 1) := by decide +kernel
theorem dX0_search_120 : decode cX0_search 120 = .ok (.iload 6, 2) := by decide +kernel
theorem dX0_search_122 : decode cX0_search 122 = .ok (.invokevirtual 89, 3) := by decide +kernel
theorem dX0_search_125 : decode cX0_search 125 = .ok (.goto 9, 3) := by decide +kernel
theorem dX0_search_128 : decode cX0_search 128 = .ok (.aload_n 0, 1) := by decide +kernel
theorem dX0_search_129 : decode cX0_search 129 = .ok (.iload 6, 2) := by decide +kernel
theorem dX0_search_131 : decode cX0_search 131 = .ok (.invokevirtual 92, 3) := by decide +kernel
theorem dX0_search_134 : decode cX0_search 134 = .ok (.iinc 5 1, 3) := by decide +kernel
theorem dX0_search_137 : decode cX0_search 137 = .ok (.goto (-77), 3) := by decide +kernel
theorem dX0_search_140 : decode cX0_search 140 = .ok (.iconst (-1), 1) := by decide +kernel
theorem dX0_search_141 : decode cX0_search 141 = .ok (.ireturn, 1) := by decide +kernel
theorem dX0_goOnFromIn_0 : decode cX0_goOnFromIn 0 = .ok (.iload_n 1, 1) := by decide +kernel
theorem dX0_goOnFromIn_1 : decode cX0_goOnFromIn 1 = .ok (.invokestatic 86, 3) := by decide +kernel
theorem dX0_goOnFromIn_4 : decode cX0_goOnFromIn 4 = .ok (.istore_n 2, 1) := by decide +kernel
theorem dX0_goOnFromIn_5 : decode cX0_goOnFromIn 5 = .ok (.aload_n 0, 1) := by decide +kernel
theorem dX0_goOnFromIn_6 : decode cX0_goOnFromIn 6 = .ok (.getfield 39, 3) := by decide +kernel
theorem dX0_goOnFromIn_9 : decode cX0_goOnFromIn 9 = .ok (.iload_n 2, 1) := by decide +kernel
theorem dX0_goOnFromIn_10 : decode cX0_goOnFromIn 10 = .ok (.invokestatic 62, 3) := by decide +kernel
theorem dX0_goOnFromIn_13 : decode cX0_goOnFromIn 13 = .ok (.land, 1) := by decide +kernel
theorem dX0_goOnFromIn_14 : decode cX0_goOnFromIn 14 = .ok (.lconst 0, 1) := by decide +kernel
theorem dX0_goOnFromIn_15 : decode cX0_goOnFromIn 15 = .ok (.lcmp, 1) := by decide +kernel
theorem dX0_goOnFromIn_16 : decode cX0_goOnFromIn 16 = .ok (.ifCond .ne 13, 3) := by decide +kernel
theorem dX0_goOnFromIn_19 : decode cX0_goOnFromIn 19 = .ok (.aload_n 0, 1) := by decide +kernel
theorem dX0_goOnFromIn_20 : decode cX0_goOnFromIn 20 = .ok (.iload_n 2, 1) := by decide +kernel
theorem dX0_goOnFromIn_21 : decode cX0_goOnFromIn 21 = .ok (.invokestatic 95, 3) := by decide +kernel
theorem dX0_goOnFromIn_24 : decode cX0_goOnFromIn 24 = .ok (.iload_n 1, 1) := by decide +kernel
theorem dX0_goOnFromIn_25 : decode cX0_goOnFromIn 25 = .ok (.invokevirtual 78, 3) := by decide +kernel
theorem dX0_goOnFromIn_28 : decode cX0_goOnFromIn 28 = .ok (.return_, 1) := by decide +kernel
theorem dX0_goOnFromIn_29 : decode cX0_goOnFromIn 29 = .ok (.iconst 0, 1) := by decide +kernel
theorem dX0_goOnFromIn_30 : decode cX0_goOnFromIn 30 = .ok (.istore_n 3, 1) := by decide +kernel
theorem dX0_goOnFromIn_31 : decode cX0_goOnFromIn 31 = .ok (.iload_n 3, 1) := by decide +kernel
theorem dX0_goOnFromIn_32 : decode cX0_goOnFromIn 32 = .ok (.aload_n 0, 1) := by decide +kernel
theorem dX0_goOnFromIn_33 : decode cX0_goOnFromIn 33 = .ok (.getfield 25, 3) := by decide +kernel
theorem dX0_goOnFromIn_36 : decode cX0_goOnFromIn 36 = .ok (.getfield 29, 3) := by decide +kernel
theorem dX0_goOnFromIn_39 : decode cX0_goOnFromIn 39 = .ok (.if_icmp .ge 34, 3) := by decide +kernel
theorem dX0_goOnFromIn_42 : decode cX0_goOnFromIn 42 = .ok (.aload_n 0, 1) := by decide +kernel
theorem dX0_goOnFromIn_43 : decode cX0_goOnFromIn 43 = .ok (.getfield 15, 3) := by decide +kernel
theorem dX0_goOnFromIn_46 : decode cX0_goOnFromIn 46 = .ok (.iload_n 3, 1) := by decide +kernel
theorem dX0_goOnFromIn_47 : decode cX0_goOnFromIn 47 = .ok (.laload, 1) := by decide +kernel
theorem dX0_goOnFromIn_48 : decode cX0_goOnFromIn 48 = .ok (.iload_n 2, 1) := by decide +kernel
theorem dX0_goOnFromIn_49 : decode cX0_goOnFromIn 49 = .ok (.invokestatic 62, 3) := by decide +kernel
theorem dX0_goOnFromIn_52 : decode cX0_goOnFromIn 52 = .ok (.land, 1) := by decide +kernel
theorem dX0_goOnFromIn_53 : decode cX0_goOnFromIn 53 = .ok (.lconst 0, 1) := by decide +kernel
theorem dX0_goOnFromIn_54 : decode cX0_goOnFromIn 54 = .ok (.lcmp, 1) := by decide +kernel
theorem dX0_goOnFromIn_55 : decode cX0_goOnFromIn 55 = .ok (.ifCond .eq 12, 3) := by decide +kernel
theorem dX0_goOnFromIn_58 : decode cX0_goOnFromIn 58 = .ok (.aload_n 0, 1) := by decide +kernel
theorem dX0_goOnFromIn_59 : decode cX0_goOnFromIn 59 = .ok (.iload_n 3, 1) := by decide +kernel
theorem dX0_goOnFromIn_60 : decode cX0_goOnFromIn 60 = .ok (.invokestatic 95, 3) := by decide +kernel
theorem dX0_goOnFromIn_63 : decode cX0_goOnFromIn 63 = .ok (.iload_n 1, 1) := by decide +kernel
theorem dX0_goOnFromIn_64 : decode cX0_goOnFromIn 64 = .ok (.invokevirtual 78, 3) := by decide +kernel
theorem dX0_goOnFromIn_67 : decode cX0_goOnFromIn 67 = .ok (.iinc 3 1, 3) := by decide +kernel
theorem dX0_goOnFromIn_70 : decode cX0_goOnFromIn 70 = .ok (.goto (-39), 3) := by decide +kernel
theorem dX0_goOnFromIn_73 : decode cX0_goOnFromIn 73 = .ok (.return_, 1) := by decide +kernel
theorem dX0_goOnFromOut_0 : decode cX0_goOnFromOut 0 = .ok (.iload_n 1, 1) := by decide +kernel
theorem dX0_goOnFromOut_1 : decode cX0_goOnFromOut 1 = .ok (.invokestatic 86, 3) := by decide +kernel
theorem dX0_goOnFromOut_4 : decode cX0_goOnFromOut 4 = .ok (.istore_n 2, 1) := by decide +kernel
theorem dX0_goOnFromOut_5 : decode cX0_goOnFromOut 5 = .ok (.aload_n 0, 1) := by decide +kernel
theorem dX0_goOnFromOut_6 : decode cX0_goOnFromOut 6 = .ok (.getfield 39, 3) := by decide +kernel
theorem dX0_goOnFromOut_9 : decode cX0_goOnFromOut 9 = .ok (.iload_n 2, 1) := by decide +kernel
theorem dX0_goOnFromOut_10 : decode cX0_goOnFromOut 10 = .ok (.invokestatic 62, 3) := by decide +kernel
theorem dX0_goOnFromOut_13 : decode cX0_goOnFromOut 13 = .ok (.land, 1) := by decide +kernel
theorem dX0_goOnFromOut_14 : decode cX0_goOnFromOut 14 = .ok (.lconst 0, 1) := by decide +kernel
theorem dX0_goOnFromOut_15 : decode cX0_goOnFromOut 15 = .ok (.lcmp, 1) := by decide +kernel
theorem dX0_goOnFromOut_16 : decode cX0_goOnFromOut 16 = .ok (.ifCond .eq 12, 3) := by decide +kernel
theorem dX0_goOnFromOut_19 : decode cX0_goOnFromOut 19 = .ok (.aload_n 0, 1) := by decide +kernel
theorem dX0_goOnFromOut_20 : decode cX0_goOnFromOut 20 = .ok (.iload_n 2, 1) := by decide +kernel
theorem dX0_goOnFromOut_21 : decode cX0_goOnFromOut 21 = .ok (.invokestatic 75, 3) := by decide +kernel
theorem dX0_goOnFromOut_24 : decode cX0_goOnFromOut 24 = .ok (.iload_n 1, 1) := by decide +kernel
theorem dX0_goOnFromOut_25 : decode cX0_goOnFromOut 25 = .ok (.invokevirtual 78, 3) := by decide +kernel
theorem dX0_goOnFromOut_28 : decode cX0_goOnFromOut 28 = .ok (.iconst 0, 1) := by decide +kernel
theorem dX0_goOnFromOut_29 : decode cX0_goOnFromOut 29 = .ok (.istore_n 3, 1) := by decide +kernel
theorem dX0_goOnFromOut_30 : decode cX0_goOnFromOut 30 = .ok (.iload_n 3, 1) := by decide +kernel
theorem dX0_goOnFromOut_31 : decode cX0_goOnFromOut 31 = .ok (.aload_n 0, 1) := by decide +kernel
theorem dX0_goOnFromOut_32 : decode cX0_goOnFromOut 32 = .ok (.getfield 25, 3) := by decide +kernel
theorem dX0_goOnFromOut_35 : decode cX0_goOnFromOut 35 = .ok (.getfield 29, 3) := by decide +kernel
theorem dX0_goOnFromOut_38 : decode cX0_goOnFromOut 38 = .ok (.if_icmp .ge 34, 3) := by decide +kernel
theorem dX0_goOnFromOut_41 : decode cX0_goOnFromOut 41 = .ok (.aload_n 0, 1) := by decide +kernel
theorem dX0_goOnFromOut_42 : decode cX0_goOnFromOut 42 = .ok (.getfield 9, 3) := by decide +kernel
theorem dX0_goOnFromOut_45 : decode cX0_goOnFromOut 45 = .ok (.iload_n 2, 1) := by decide +kernel
theorem dX0_goOnFromOut_46 : decode cX0_goOnFromOut 46 = .ok (.laload, 1) := by decide +kernel
theorem dX0_goOnFromOut_47 : decode cX0_goOnFromOut 47 = .ok (.iload_n 3, 1) := by decide +kernel
theorem dX0_goOnFromOut_48 : decode cX0_goOnFromOut 48 = .ok (.invokestatic 62, 3) := by decide +kernel
theorem dX0_goOnFromOut_51 : decode cX0_goOnFromOut 51 = .ok (.land, 1) := by decide +kernel
theorem dX0_goOnFromOut_52 : decode cX0_goOnFromOut 52 = .ok (.lconst 0, 1) := by decide +kernel
theorem dX0_goOnFromOut_53 : decode cX0_goOnFromOut 53 = .ok (.lcmp, 1) := by decide +kernel
theorem dX0_goOnFromOut_54 : decode cX0_goOnFromOut 54 = .ok (.ifCond .eq 12, 3) := by decide +kernel
theorem dX0_goOnFromOut_57 : decode cX0_goOnFromOut 57 = .ok (.aload_n 0, 1) := by decide +kernel
theorem dX0_goOnFromOut_58 : decode cX0_goOnFromOut 58 = .ok (.iload_n 3, 1) := by decide +kernel
theorem dX0_goOnFromOut_59 : decode cX0_goOnFromOut 59 = .ok (.invokestatic 75, 3) := by decide +kernel
theorem dX0_goOnFromOut_62 : decode cX0_goOnFromOut 62 = .ok (.iload_n 1, 1) := by decide +kernel
theorem dX0_goOnFromOut_63 : decode cX0_goOnFromOut 63 = .ok (.invokevirtual 78, 3) := by decide +kernel
theorem dX0_goOnFromOut_66 : decode cX0_goOnFromOut 66 = .ok (.iinc 3 1, 3) := by decide +kernel
theorem dX0_goOnFromOut_69 : decode cX0_goOnFromOut 69 = .ok (.goto (-39), 3) := by decide +kernel
theorem dX0_goOnFromOut_72 : decode cX0_goOnFromOut 72 = .ok (.return_, 1) := by decide +kernel
theorem dX0_enter_0 : decode cX0_enter 0 = .ok (.aload_n 0, 1) := by decide +kernel
theorem dX0_enter_1 : decode cX0_enter 1 = .ok (.getfield 18, 3) := by decide +kernel
theorem dX0_enter_4 : decode cX0_enter 4 = .ok (.iload_n 1, 1) := by decide +kernel
theorem dX0_enter_5 : decode cX0_enter 5 = .ok (.iaload, 1) := by decide +kernel
theorem dX0_enter_6 : decode cX0_enter 6 = .ok (.iconst (-1), 1) := by decide +kernel
theorem dX0_enter_7 : decode cX0_enter 7 = .ok (.if_icmp .ne 39, 3) := by decide +kernel
theorem dX0_enter_10 : decode cX0_enter 10 = .ok (.aload_n 0, 1) := by decide +kernel
theorem dX0_enter_11 : decode cX0_enter 11 = .ok (.getfield 72, 3) := by decide +kernel
theorem dX0_enter_14 : decode cX0_enter 14 = .ok (.bipush 96, 2) := by decide +kernel
theorem dX0_enter_16 : decode cX0_enter 16 = .ok (.if_icmp .ge 30, 3) := by decide +kernel
theorem dX0_enter_19 : decode cX0_enter 19 = .ok (.aload_n 0, 1) := by decide +kernel
theorem dX0_enter_20 : decode cX0_enter 20 = .ok (.getfield 18, 3) := by decide +kernel
theorem dX0_enter_23 : decode cX0_enter 23 = .ok (.iload_n 1, 1) := by decide +kernel
theorem dX0_enter_24 : decode cX0_enter 24 = .ok (.iload_n 2, 1) := by decide +kernel
theorem dX0_enter_25 : decode cX0_enter 25 = .ok (.iastore, 1) := by decide +kernel
theorem dX0_enter_26 : decode cX0_enter 26 = .ok (.aload_n 0, 1) := by decide +kernel
theorem dX0_enter_27 : decode cX0_enter 27 = .ok (.getfield 22, 3) := by decide +kernel
theorem dX0_enter_30 : decode cX0_enter 30 = .ok (.aload_n 0, 1) := by decide +kernel
theorem dX0_enter_31 : decode cX0_enter 31 = .ok (.getfield 72, 3) := by decide +kernel
theorem dX0_enter_34 : decode cX0_enter 34 = .ok (.iload_n 1, 1) := by decide +kernel
theorem dX0_enter_35 : decode cX0_enter 35 = .ok (.iastore, 1) := by decide +kernel
theorem dX0_enter_36 : decode cX0_enter 36 = .ok (.aload_n 0, 1) := by decide +kernel
theorem dX0_enter_37 : decode cX0_enter 37 = .ok (.dup, 1) := by decide +kernel
theorem dX0_enter_38 : decode cX0_enter 38 = .ok (.getfield 72, 3) := by decide +kernel
theorem dX0_enter_41 : decode cX0_enter 41 = .ok (.iconst 1, 1) := by decide +kernel
theorem dX0_enter_42 : decode cX0_enter 42 = .ok (.iadd, 1) := by decide +kernel
theorem dX0_enter_43 : decode cX0_enter 43 = .ok (.putfield 72, 3) := by decide +kernel
theorem dX0_enter_46 : decode cX0_enter 46 = .ok (.return_, 1) := by decide +kernel
theorem dX0_addWay_0 : decode cX0_addWay 0 = .ok (.iload_n 1, 1) := by decide +kernel
theorem dX0_addWay_1 : decode cX0_addWay 1 = .ok (.istore_n 2, 1) := by decide +kernel
theorem dX0_addWay_2 : decode cX0_addWay 2 = .ok (.iconst 0, 1) := by decide +kernel
theorem dX0_addWay_3 : decode cX0_addWay 3 = .ok (.istore_n 3, 1) := by decide +kernel
theorem dX0_addWay_4 : decode cX0_addWay 4 = .ok (.iload_n 3, 1) := by decide +kernel
theorem dX0_addWay_5 : decode cX0_addWay 5 = .ok (.bipush 96, 2) := by decide +kernel
theorem dX0_addWay_7 : decode cX0_addWay 7 = .ok (.if_icmp .ge 111, 3) := by decide +kernel
theorem dX0_addWay_10 : decode cX0_addWay 10 = .ok (.aload_n 0, 1) := by decide +kernel
theorem dX0_addWay_11 : decode cX0_addWay 11 = .ok (.getfield 18, 3) := by decide +kernel
theorem dX0_addWay_14 : decode cX0_addWay 14 = .ok (.iload_n 2, 1) := by decide +kernel
theorem dX0_addWay_15 : decode cX0_addWay 15 = .ok (.iaload, 1) := by decide +kernel
theorem dX0_addWay_16 : decode cX0_addWay 16 = .ok (.ifCond .lt 102, 3) := by decide +kernel
theorem dX0_addWay_19 : decode cX0_addWay 19 = .ok (.aload_n 0, 1) := by decide +kernel
theorem dX0_addWay_20 : decode cX0_addWay 20 = .ok (.getfield 18, 3) := by decide +kernel
theorem dX0_addWay_23 : decode cX0_addWay 23 = .ok (.iload_n 2, 1) := by decide +kernel
theorem dX0_addWay_24 : decode cX0_addWay 24 = .ok (.iaload, 1) := by decide +kernel
theorem dX0_addWay_25 : decode cX0_addWay 25 = .ok (.istore 4, 2) := by decide +kernel
theorem dX0_addWay_27 : decode cX0_addWay 27 = .ok (.iload_n 2, 1) := by decide +kernel
theorem dX0_addWay_28 : decode cX0_addWay 28 = .ok (.invokestatic 86, 3) := by decide +kernel
theorem dX0_addWay_31 : decode cX0_addWay 31 = .ok (.istore 5, 2) := by decide +kernel
theorem dX0_addWay_33 : decode cX0_addWay 33 = .ok (.iload 4, 2) := by decide +kernel
theorem dX0_addWay_35 : decode cX0_addWay 35 = .ok (.invokestatic 86, 3) := by decide +kernel
theorem dX0_addWay_38 : decode cX0_addWay 38 = .ok (.istore 6, 2) := by decide +kernel
theorem dX0_addWay_40 : decode cX0_addWay 40 = .ok (.iload 5, 2) := by decide +kernel
theorem dX0_addWay_42 : decode cX0_addWay 42 = .ok (.iload 6, 2) := by decide +kernel
theorem dX0_addWay_44 : decode cX0_addWay 44 = .ok (.if_icmp .ne 20, 3) := by decide +kernel
theorem dX0_addWay_47 : decode cX0_addWay 47 = .ok (.aload_n 0, 1) := by decide +kernel
theorem dX0_addWay_48 : decode cX0_addWay 48 = .ok (.dup, 1) := by decide +kernel
theorem dX0_addWay_49 : decode cX0_addWay 49 = .ok (.getfield 39, 3) := by decide +kernel
theorem dX0_addWay_52 : decode cX0_addWay 52 = .ok (.iload 5, 2) := by decide +kernel
theorem dX0_addWay_54 : decode cX0_addWay 54 = .ok (.invokestatic 62, 3) := by decide +kernel
theorem dX0_addWay_57 : decode cX0_addWay 57 = .ok (.lxor, 1) := by decide +kernel
theorem dX0_addWay_58 : decode cX0_addWay 58 = .ok (.putfield 39, 3) := by decide +kernel
theorem dX0_addWay_61 : decode cX0_addWay 61 = .ok (.goto 48, 3) := by decide +kernel
theorem dX0_addWay_64 : decode cX0_addWay 64 = .ok (.iload 4, 2) := by decide +kernel
theorem dX0_addWay_66 : decode cX0_addWay 66 = .ok (.invokestatic 82, 3) := by decide +kernel
theorem dX0_addWay_69 : decode cX0_addWay 69 = .ok (.ifCond .eq 21, 3) := by decide +kernel
theorem dX0_addWay_72 : decode cX0_addWay 72 = .ok (.aload_n 0, 1) := by decide +kernel
theorem dX0_addWay_73 : decode cX0_addWay 73 = .ok (.getfield 15, 3) := by decide +kernel
theorem dX0_addWay_76 : decode cX0_addWay 76 = .ok (.iload 6, 2) := by decide +kernel
theorem dX0_addWay_78 : decode cX0_addWay 78 = .ok (.dup2, 1) := by decide +kernel
theorem dX0_addWay_79 : decode cX0_addWay 79 = .ok (.laload, 1) := by decide +kernel
theorem dX0_addWay_80 : decode cX0_addWay 80 = .ok (.iload 5, 2) := by decide +kernel
theorem dX0_addWay_82 : decode cX0_addWay 82 = .ok (.invokestatic 62, 3) := by decide +kernel
theorem dX0_addWay_85 : decode cX0_addWay 85 = .ok (.lor, 1) := by decide +kernel
theorem dX0_addWay_86 : decode cX0_addWay 86 = .ok (.lastore, 1) := by decide +kernel
theorem dX0_addWay_87 : decode cX0_addWay 87 = .ok (.goto 22, 3) := by decide +kernel
theorem dX0_addWay_90 : decode cX0_addWay 90 = .ok (.aload_n 0, 1) := by decide +kernel
theorem dX0_addWay_91 : decode cX0_addWay 91 = .ok (.getfield 15, 3) := by decide +kernel
theorem dX0_addWay_94 : decode cX0_addWay 94 = .ok (.iload 5, 2) := by decide +kernel
theorem dX0_addWay_96 : decode cX0_addWay 96 = .ok (.dup2, 1) := by decide +kernel
theorem dX0_addWay_97 : decode cX0_addWay 97 = .ok (.laload, 1) := by decide +kernel
theorem dX0_addWay_98 : decode cX0_addWay 98 = .ok (.iload 6, 2) := by decide +kernel
theorem dX0_addWay_100 : decode cX0_addWay 100 = .ok (.invokestatic 62, 3) := by decide +kernel
theorem dX0_addWay_103 : decode cX0_addWay 103 = .ok (.ldc2_w 98, 3) := by decide +kernel
theorem dX0_addWay_106 : decode cX0_addWay 106 = .ok (.lxor, 1) := by decide +kernel
theorem dX0_addWay_107 : decode cX0_addWay 107 = .ok (.land, 1) := by decide +kernel
theorem dX0_addWay_108 : decode cX0_addWay 108 = .ok (.lastore, 1) := by decide +kernel
theorem dX0_addWay_109 : decode cX0_addWay 109 = .ok (.iload 4, 2) := by decide +kernel
theorem dX0_addWay_111 : decode cX0_addWay 111 = .ok (.istore_n 2, 1) := by decide +kernel
theorem dX0_addWay_112 : decode cX0_addWay 112 = .ok (.iinc 3 1, 3) := by decide +kernel
theorem dX0_addWay_115 : decode cX0_addWay 115 = .ok (.goto (-111), 3) := by decide +kernel
theorem dX0_addWay_118 : decode cX0_addWay 118 = .ok (.return_, 1) := by decide +kernel
theorem dX0_doorIn_0 : decode cX0_doorIn 0 = .ok (.iconst 2, 1) := by decide +kernel
theorem dX0_doorIn_1 : decode cX0_doorIn 1 = .ok (.iload_n 0, 1) := by decide +kernel
theorem dX0_doorIn_2 : decode cX0_doorIn 2 = .ok (.imul, 1) := by decide +kernel
theorem dX0_doorIn_3 : decode cX0_doorIn 3 = .ok (.ireturn, 1) := by decide +kernel
theorem dX0_doorOut_0 : decode cX0_doorOut 0 = .ok (.iconst 2, 1) := by decide +kernel
theorem dX0_doorOut_1 : decode cX0_doorOut 1 = .ok (.iload_n 0, 1) := by decide +kernel
theorem dX0_doorOut_2 : decode cX0_doorOut 2 = .ok (.imul, 1) := by decide +kernel
theorem dX0_doorOut_3 : decode cX0_doorOut 3 = .ok (.iconst 1, 1) := by decide +kernel
theorem dX0_doorOut_4 : decode cX0_doorOut 4 = .ok (.iadd, 1) := by decide +kernel
theorem dX0_doorOut_5 : decode cX0_doorOut 5 = .ok (.ireturn, 1) := by decide +kernel
theorem dX0_isOut_0 : decode cX0_isOut 0 = .ok (.iload_n 0, 1) := by decide +kernel
theorem dX0_isOut_1 : decode cX0_isOut 1 = .ok (.iconst 1, 1) := by decide +kernel
theorem dX0_isOut_2 : decode cX0_isOut 2 = .ok (.iand, 1) := by decide +kernel
theorem dX0_isOut_3 : decode cX0_isOut 3 = .ok (.ifCond .eq 7, 3) := by decide +kernel
theorem dX0_isOut_6 : decode cX0_isOut 6 = .ok (.iconst 1, 1) := by decide +kernel
theorem dX0_isOut_7 : decode cX0_isOut 7 = .ok (.goto 4, 3) := by decide +kernel
theorem dX0_isOut_10 : decode cX0_isOut 10 = .ok (.iconst 0, 1) := by decide +kernel
theorem dX0_isOut_11 : decode cX0_isOut 11 = .ok (.ireturn, 1) := by decide +kernel
theorem dX0_relayOf_0 : decode cX0_relayOf 0 = .ok (.iload_n 0, 1) := by decide +kernel
theorem dX0_relayOf_1 : decode cX0_relayOf 1 = .ok (.iconst 1, 1) := by decide +kernel
theorem dX0_relayOf_2 : decode cX0_relayOf 2 = .ok (.ishr, 1) := by decide +kernel
theorem dX0_relayOf_3 : decode cX0_relayOf 3 = .ok (.ireturn, 1) := by decide +kernel
theorem dX1_init_0 : decode cX1_init 0 = .ok (.aload_n 0, 1) := by decide +kernel
theorem dX1_init_1 : decode cX1_init 1 = .ok (.invokespecial 3, 3) := by decide +kernel
theorem dX1_init_4 : decode cX1_init 4 = .ok (.aload_n 0, 1) := by decide +kernel
theorem dX1_init_5 : decode cX1_init 5 = .ok (.iconst 0, 1) := by decide +kernel
theorem dX1_init_6 : decode cX1_init 6 = .ok (.putfield 9, 3) := by decide +kernel
theorem dX1_init_9 : decode cX1_init 9 = .ok (.aload_n 0, 1) := by decide +kernel
theorem dX1_init_10 : decode cX1_init 10 = .ok (.iconst (-1), 1) := by decide +kernel
theorem dX1_init_11 : decode cX1_init 11 = .ok (.putfield 15, 3) := by decide +kernel
theorem dX1_init_14 : decode cX1_init 14 = .ok (.aload_n 0, 1) := by decide +kernel
theorem dX1_init_15 : decode cX1_init 15 = .ok (.iconst (-1), 1) := by decide +kernel
theorem dX1_init_16 : decode cX1_init 16 = .ok (.putfield 18, 3) := by decide +kernel
theorem dX1_init_19 : decode cX1_init 19 = .ok (.aload_n 0, 1) := by decide +kernel
theorem dX1_init_20 : decode cX1_init 20 = .ok (.iconst (-1), 1) := by decide +kernel
theorem dX1_init_21 : decode cX1_init 21 = .ok (.putfield 21, 3) := by decide +kernel
theorem dX1_init_24 : decode cX1_init 24 = .ok (.aload_n 0, 1) := by decide +kernel
theorem dX1_init_25 : decode cX1_init 25 = .ok (.iconst (-1), 1) := by decide +kernel
theorem dX1_init_26 : decode cX1_init 26 = .ok (.putfield 24, 3) := by decide +kernel
theorem dX1_init_29 : decode cX1_init 29 = .ok (.aload_n 0, 1) := by decide +kernel
theorem dX1_init_30 : decode cX1_init 30 = .ok (.iload_n 1, 1) := by decide +kernel
theorem dX1_init_31 : decode cX1_init 31 = .ok (.putfield 27, 3) := by decide +kernel
theorem dX1_init_34 : decode cX1_init 34 = .ok (.aload_n 0, 1) := by decide +kernel
theorem dX1_init_35 : decode cX1_init 35 = .ok (.iload_n 2, 1) := by decide +kernel
theorem dX1_init_36 : decode cX1_init 36 = .ok (.putfield 30, 3) := by decide +kernel
theorem dX1_init_39 : decode cX1_init 39 = .ok (.aload_n 0, 1) := by decide +kernel
theorem dX1_init_40 : decode cX1_init 40 = .ok (.iload_n 3, 1) := by decide +kernel
theorem dX1_init_41 : decode cX1_init 41 = .ok (.putfield 33, 3) := by decide +kernel
theorem dX1_init_44 : decode cX1_init 44 = .ok (.aload_n 0, 1) := by decide +kernel
theorem dX1_init_45 : decode cX1_init 45 = .ok (.iload_n 1, 1) := by decide +kernel
theorem dX1_init_46 : decode cX1_init 46 = .ok (.invokestatic 36, 3) := by decide +kernel
theorem dX1_init_49 : decode cX1_init 49 = .ok (.putfield 40, 3) := by decide +kernel
theorem dX1_init_52 : decode cX1_init 52 = .ok (.return_, 1) := by decide +kernel
theorem dX1_mayGo_0 : decode cX1_mayGo 0 = .ok (.aload_n 0, 1) := by decide +kernel
theorem dX1_mayGo_1 : decode cX1_mayGo 1 = .ok (.getfield 9, 3) := by decide +kernel
theorem dX1_mayGo_4 : decode cX1_mayGo 4 = .ok (.ifCond .eq 11, 3) := by decide +kernel
theorem dX1_mayGo_7 : decode cX1_mayGo 7 = .ok (.aload_n 0, 1) := by decide +kernel
theorem dX1_mayGo_8 : decode cX1_mayGo 8 = .ok (.getfield 9, 3) := by decide +kernel
theorem dX1_mayGo_11 : decode cX1_mayGo 11 = .ok (.iconst 1, 1) := by decide +kernel
theorem dX1_mayGo_12 : decode cX1_mayGo 12 = .ok (.if_icmp .ne 7, 3) := by decide +kernel
theorem dX1_mayGo_15 : decode cX1_mayGo 15 = .ok (.iconst 1, 1) := by decide +kernel
theorem dX1_mayGo_16 : decode cX1_mayGo 16 = .ok (.goto 4, 3) := by decide +kernel
theorem dX1_mayGo_19 : decode cX1_mayGo 19 = .ok (.iconst 0, 1) := by decide +kernel
theorem dX1_mayGo_20 : decode cX1_mayGo 20 = .ok (.ireturn, 1) := by decide +kernel
theorem dX1_isSettled_0 : decode cX1_isSettled 0 = .ok (.aload_n 0, 1) := by decide +kernel
theorem dX1_isSettled_1 : decode cX1_isSettled 1 = .ok (.getfield 9, 3) := by decide +kernel
theorem dX1_isSettled_4 : decode cX1_isSettled 4 = .ok (.iconst 4, 1) := by decide +kernel
theorem dX1_isSettled_5 : decode cX1_isSettled 5 = .ok (.if_icmp .eq 11, 3) := by decide +kernel
theorem dX1_isSettled_8 : decode cX1_isSettled 8 = .ok (.aload_n 0, 1) := by decide +kernel
theorem dX1_isSettled_9 : decode cX1_isSettled 9 = .ok (.getfield 9, 3) := by decide +kernel
theorem dX1_isSettled_12 : decode cX1_isSettled 12 = .ok (.iconst 5, 1) := by decide +kernel
theorem dX1_isSettled_13 : decode cX1_isSettled 13 = .ok (.if_icmp .ne 7, 3) := by decide +kernel
theorem dX1_isSettled_16 : decode cX1_isSettled 16 = .ok (.iconst 1, 1) := by decide +kernel
theorem dX1_isSettled_17 : decode cX1_isSettled 17 = .ok (.goto 4, 3) := by decide +kernel
theorem dX1_isSettled_20 : decode cX1_isSettled 20 = .ok (.iconst 0, 1) := by decide +kernel
theorem dX1_isSettled_21 : decode cX1_isSettled 21 = .ok (.ireturn, 1) := by decide +kernel
theorem dX1_relay_0 : decode cX1_relay 0 = .ok (.aload_n 0, 1) := by decide +kernel
theorem dX1_relay_1 : decode cX1_relay 1 = .ok (.getfield 9, 3) := by decide +kernel
theorem dX1_relay_4 : decode cX1_relay 4 = .ok (.iconst 2, 1) := by decide +kernel
theorem dX1_relay_5 : decode cX1_relay 5 = .ok (.if_icmp .ne 10, 3) := by decide +kernel
theorem dX1_relay_8 : decode cX1_relay 8 = .ok (.aload_n 0, 1) := by decide +kernel
theorem dX1_relay_9 : decode cX1_relay 9 = .ok (.getfield 15, 3) := by decide +kernel
theorem dX1_relay_12 : decode cX1_relay 12 = .ok (.goto 7, 3) := by decide +kernel
theorem dX1_relay_15 : decode cX1_relay 15 = .ok (.aload_n 0, 1) := by decide +kernel
theorem dX1_relay_16 : decode cX1_relay 16 = .ok (.getfield 40, 3) := by decide +kernel
theorem dX1_relay_19 : decode cX1_relay 19 = .ok (.istore_n 1, 1) := by decide +kernel
theorem dX1_relay_20 : decode cX1_relay 20 = .ok (.aload_n 0, 1) := by decide +kernel
theorem dX1_relay_21 : decode cX1_relay 21 = .ok (.getfield 9, 3) := by decide +kernel
theorem dX1_relay_24 : decode cX1_relay 24 = .ok (.iconst 1, 1) := by decide +kernel
theorem dX1_relay_25 : decode cX1_relay 25 = .ok (.if_icmp .eq 11, 3) := by decide +kernel
theorem dX1_relay_28 : decode cX1_relay 28 = .ok (.aload_n 0, 1) := by decide +kernel
theorem dX1_relay_29 : decode cX1_relay 29 = .ok (.getfield 9, 3) := by decide +kernel
theorem dX1_relay_32 : decode cX1_relay 32 = .ok (.iconst 2, 1) := by decide +kernel
theorem dX1_relay_33 : decode cX1_relay 33 = .ok (.if_icmp .ne 14, 3) := by decide +kernel
theorem dX1_relay_36 : decode cX1_relay 36 = .ok (.iload_n 1, 1) := by decide +kernel
theorem dX1_relay_37 : decode cX1_relay 37 = .ok (.invokestatic 43, 3) := by decide +kernel
theorem dX1_relay_40 : decode cX1_relay 40 = .ok (.ifCond .eq 7, 3) := by decide +kernel
theorem dX1_relay_43 : decode cX1_relay 43 = .ok (.iconst 1, 1) := by decide +kernel
theorem dX1_relay_44 : decode cX1_relay 44 = .ok (.goto 4, 3) := by decide +kernel
theorem dX1_relay_47 : decode cX1_relay 47 = .ok (.iconst 0, 1) := by decide +kernel
theorem dX1_relay_48 : decode cX1_relay 48 = .ok (.istore_n 2, 1) := by decide +kernel
theorem dX1_relay_49 : decode cX1_relay 49 = .ok (.iload_n 2, 1) := by decide +kernel
theorem dX1_relay_50 : decode cX1_relay 50 = .ok (.ifCond .eq 7, 3) := by decide +kernel
theorem dX1_relay_53 : decode cX1_relay 53 = .ok (.iload_n 1, 1) := by decide +kernel
theorem dX1_relay_54 : decode cX1_relay 54 = .ok (.goto 4, 3) := by decide +kernel
theorem dX1_relay_57 : decode cX1_relay 57 = .ok (.iconst (-1), 1) := by decide +kernel
theorem dX1_relay_58 : decode cX1_relay 58 = .ok (.ireturn, 1) := by decide +kernel
theorem dX1_hangsOn_0 : decode cX1_hangsOn 0 = .ok (.aload_n 0, 1) := by decide +kernel
theorem dX1_hangsOn_1 : decode cX1_hangsOn 1 = .ok (.getfield 9, 3) := by decide +kernel
theorem dX1_hangsOn_4 : decode cX1_hangsOn 4 = .ok (.iconst 1, 1) := by decide +kernel
theorem dX1_hangsOn_5 : decode cX1_hangsOn 5 = .ok (.if_icmp .ne 11, 3) := by decide +kernel
theorem dX1_hangsOn_8 : decode cX1_hangsOn 8 = .ok (.aload_n 0, 1) := by decide +kernel
theorem dX1_hangsOn_9 : decode cX1_hangsOn 9 = .ok (.getfield 40, 3) := by decide +kernel
theorem dX1_hangsOn_12 : decode cX1_hangsOn 12 = .ok (.iload_n 1, 1) := by decide +kernel
theorem dX1_hangsOn_13 : decode cX1_hangsOn 13 = .ok (.if_icmp .eq 27, 3) := by decide +kernel
theorem dX1_hangsOn_16 : decode cX1_hangsOn 16 = .ok (.aload_n 0, 1) := by decide +kernel
theorem dX1_hangsOn_17 : decode cX1_hangsOn 17 = .ok (.getfield 9, 3) := by decide +kernel
theorem dX1_hangsOn_20 : decode cX1_hangsOn 20 = .ok (.iconst 2, 1) := by decide +kernel
theorem dX1_hangsOn_21 : decode cX1_hangsOn 21 = .ok (.if_icmp .ne 23, 3) := by decide +kernel
theorem dX1_hangsOn_24 : decode cX1_hangsOn 24 = .ok (.aload_n 0, 1) := by decide +kernel
theorem dX1_hangsOn_25 : decode cX1_hangsOn 25 = .ok (.getfield 40, 3) := by decide +kernel
theorem dX1_hangsOn_28 : decode cX1_hangsOn 28 = .ok (.iload_n 1, 1) := by decide +kernel
theorem dX1_hangsOn_29 : decode cX1_hangsOn 29 = .ok (.if_icmp .eq 11, 3) := by decide +kernel
theorem dX1_hangsOn_32 : decode cX1_hangsOn 32 = .ok (.aload_n 0, 1) := by decide +kernel
theorem dX1_hangsOn_33 : decode cX1_hangsOn 33 = .ok (.getfield 15, 3) := by decide +kernel
theorem dX1_hangsOn_36 : decode cX1_hangsOn 36 = .ok (.iload_n 1, 1) := by decide +kernel
theorem dX1_hangsOn_37 : decode cX1_hangsOn 37 = .ok (.if_icmp .ne 7, 3) := by decide +kernel
theorem dX1_hangsOn_40 : decode cX1_hangsOn 40 = .ok (.iconst 1, 1) := by decide +kernel
theorem dX1_hangsOn_41 : decode cX1_hangsOn 41 = .ok (.goto 4, 3) := by decide +kernel
theorem dX1_hangsOn_44 : decode cX1_hangsOn 44 = .ok (.iconst 0, 1) := by decide +kernel
theorem dX1_hangsOn_45 : decode cX1_hangsOn 45 = .ok (.ireturn, 1) := by decide +kernel
theorem dX1_take_0 : decode cX1_take 0 = .ok (.aload_n 0, 1) := by decide +kernel
theorem dX1_take_1 : decode cX1_take 1 = .ok (.iconst 2, 1) := by decide +kernel
theorem dX1_take_2 : decode cX1_take 2 = .ok (.putfield 9, 3) := by decide +kernel
theorem dX1_take_5 : decode cX1_take 5 = .ok (.aload_n 0, 1) := by decide +kernel
theorem dX1_take_6 : decode cX1_take 6 = .ok (.iload_n 1, 1) := by decide +kernel
theorem dX1_take_7 : decode cX1_take 7 = .ok (.putfield 15, 3) := by decide +kernel
theorem dX1_take_10 : decode cX1_take 10 = .ok (.aload_n 0, 1) := by decide +kernel
theorem dX1_take_11 : decode cX1_take 11 = .ok (.iload_n 2, 1) := by decide +kernel
theorem dX1_take_12 : decode cX1_take 12 = .ok (.putfield 18, 3) := by decide +kernel
theorem dX1_take_15 : decode cX1_take 15 = .ok (.aload_n 0, 1) := by decide +kernel
theorem dX1_take_16 : decode cX1_take 16 = .ok (.dup, 1) := by decide +kernel
theorem dX1_take_17 : decode cX1_take 17 = .ok (.getfield 47, 3) := by decide +kernel
theorem dX1_take_20 : decode cX1_take 20 = .ok (.iconst 1, 1) := by decide +kernel
theorem dX1_take_21 : decode cX1_take 21 = .ok (.iadd, 1) := by decide +kernel
theorem dX1_take_22 : decode cX1_take 22 = .ok (.putfield 47, 3) := by decide +kernel
theorem dX1_take_25 : decode cX1_take 25 = .ok (.return_, 1) := by decide +kernel
theorem dX1_arrive_0 : decode cX1_arrive 0 = .ok (.aload_n 0, 1) := by decide +kernel
theorem dX1_arrive_1 : decode cX1_arrive 1 = .ok (.aload_n 0, 1) := by decide +kernel
theorem dX1_arrive_2 : decode cX1_arrive 2 = .ok (.getfield 15, 3) := by decide +kernel
theorem dX1_arrive_5 : decode cX1_arrive 5 = .ok (.putfield 40, 3) := by decide +kernel
theorem dX1_arrive_8 : decode cX1_arrive 8 = .ok (.aload_n 0, 1) := by decide +kernel
theorem dX1_arrive_9 : decode cX1_arrive 9 = .ok (.getfield 40, 3) := by decide +kernel
theorem dX1_arrive_12 : decode cX1_arrive 12 = .ok (.invokestatic 43, 3) := by decide +kernel
theorem dX1_arrive_15 : decode cX1_arrive 15 = .ok (.ifCond .eq 11, 3) := by decide +kernel
theorem dX1_arrive_18 : decode cX1_arrive 18 = .ok (.aload_n 0, 1) := by decide +kernel
theorem dX1_arrive_19 : decode cX1_arrive 19 = .ok (.iconst 1, 1) := by decide +kernel
theorem dX1_arrive_20 : decode cX1_arrive 20 = .ok (.putfield 9, 3) := by decide +kernel
theorem dX1_arrive_23 : decode cX1_arrive 23 = .ok (.goto 13, 3) := by decide +kernel
theorem dX1_arrive_26 : decode cX1_arrive 26 = .ok (.aload_n 0, 1) := by decide +kernel
theorem dX1_arrive_27 : decode cX1_arrive 27 = .ok (.iconst 3, 1) := by decide +kernel
theorem dX1_arrive_28 : decode cX1_arrive 28 = .ok (.putfield 9, 3) := by decide +kernel
theorem dX1_arrive_31 : decode cX1_arrive 31 = .ok (.aload_n 0, 1) := by decide +kernel
theorem dX1_arrive_32 : decode cX1_arrive 32 = .ok (.iload_n 1, 1) := by decide +kernel
theorem dX1_arrive_33 : decode cX1_arrive 33 = .ok (.putfield 21, 3) := by decide +kernel
theorem dX1_arrive_36 : decode cX1_arrive 36 = .ok (.return_, 1) := by decide +kernel
theorem dX2_init_0 : decode cX2_init 0 = .ok (.aload_n 0, 1) := by decide +kernel
theorem dX2_init_1 : decode cX2_init 1 = .ok (.invokespecial 3, 3) := by decide +kernel
theorem dX2_init_4 : decode cX2_init 4 = .ok (.aload_n 0, 1) := by decide +kernel
theorem dX2_init_5 : decode cX2_init 5 = .ok (.bipush 60, 2) := by decide +kernel
theorem dX2_init_7 : decode cX2_init 7 = .ok (.anewarray 9, 3) := by decide +kernel
theorem dX2_init_10 : decode cX2_init 10 = .ok (.putfield 11, 3) := by decide +kernel
theorem dX2_init_13 : decode cX2_init 13 = .ok (.aload_n 0, 1) := by decide +kernel
theorem dX2_init_14 : decode cX2_init 14 = .ok (.bipush 56, 2) := by decide +kernel
theorem dX2_init_16 : decode cX2_init 16 = .ok (.newarray .long, 2) := by decide +kernel
theorem dX2_init_18 : decode cX2_init 18 = .ok (.putfield 17, 3) := by decide +kernel
theorem dX2_init_21 : decode cX2_init 21 = .ok (.aload_n 0, 1) := by decide +kernel
theorem dX2_init_22 : decode cX2_init 22 = .ok (.bipush 8, 2) := by decide +kernel
theorem dX2_init_24 : decode cX2_init 24 = .ok (.newarray .int, 2) := by decide +kernel
theorem dX2_init_26 : decode cX2_init 26 = .ok (.putfield 21, 3) := by decide +kernel
theorem dX2_init_29 : decode cX2_init 29 = .ok (.aload_n 0, 1) := by decide +kernel
theorem dX2_init_30 : decode cX2_init 30 = .ok (.aload_n 1, 1) := by decide +kernel
theorem dX2_init_31 : decode cX2_init 31 = .ok (.putfield 25, 3) := by decide +kernel
theorem dX2_init_34 : decode cX2_init 34 = .ok (.aload_n 0, 1) := by decide +kernel
theorem dX2_init_35 : decode cX2_init 35 = .ok (.aload_n 2, 1) := by decide +kernel
theorem dX2_init_36 : decode cX2_init 36 = .ok (.putfield 29, 3) := by decide +kernel
theorem dX2_init_39 : decode cX2_init 39 = .ok (.return_, 1) := by decide +kernel
theorem dX2_accept_0 : decode cX2_accept 0 = .ok (.aload_n 0, 1) := by decide +kernel
theorem dX2_accept_1 : decode cX2_accept 1 = .ok (.getfield 33, 3) := by decide +kernel
theorem dX2_accept_4 : decode cX2_accept 4 = .ok (.istore_n 3, 1) := by decide +kernel
theorem dX2_accept_5 : decode cX2_accept 5 = .ok (.aload_n 0, 1) := by decide +kernel
theorem dX2_accept_6 : decode cX2_accept 6 = .ok (.getfield 11, 3) := by decide +kernel
theorem dX2_accept_9 : decode cX2_accept 9 = .ok (.iload_n 3, 1) := by decide +kernel
theorem dX2_accept_10 : decode cX2_accept 10 = .ok (.new 9, 3) := by decide +kernel
theorem dX2_accept_13 : decode cX2_accept 13 = .ok (.dup, 1) := by decide +kernel
theorem dX2_accept_14 : decode cX2_accept 14 = .ok (.iload_n 1, 1) := by decide +kernel
theorem dX2_accept_15 : decode cX2_accept 15 = .ok (.iload_n 2, 1) := by decide +kernel
theorem dX2_accept_16 : decode cX2_accept 16 = .ok (.aload_n 0, 1) := by decide +kernel
theorem dX2_accept_17 : decode cX2_accept 17 = .ok (.getfield 37, 3) := by decide +kernel
theorem dX2_accept_20 : decode cX2_accept 20 = .ok (.invokespecial 40, 3) := by decide +kernel
theorem dX2_accept_23 : decode cX2_accept 23 = .ok (.aastore, 1) := by decide +kernel
theorem dX2_accept_24 : decode cX2_accept 24 = .ok (.aload_n 0, 1) := by decide +kernel
theorem dX2_accept_25 : decode cX2_accept 25 = .ok (.iload_n 3, 1) := by decide +kernel
theorem dX2_accept_26 : decode cX2_accept 26 = .ok (.iconst 1, 1) := by decide +kernel
theorem dX2_accept_27 : decode cX2_accept 27 = .ok (.iadd, 1) := by decide +kernel
theorem dX2_accept_28 : decode cX2_accept 28 = .ok (.putfield 33, 3) := by decide +kernel
theorem dX2_accept_31 : decode cX2_accept 31 = .ok (.iload_n 3, 1) := by decide +kernel
theorem dX2_accept_32 : decode cX2_accept 32 = .ok (.ireturn, 1) := by decide +kernel
theorem dX2_run_0 : decode cX2_run 0 = .ok (.iconst 0, 1) := by decide +kernel
theorem dX2_run_1 : decode cX2_run 1 = .ok (.istore_n 2, 1) := by decide +kernel
theorem dX2_run_2 : decode cX2_run 2 = .ok (.iload_n 2, 1) := by decide +kernel
theorem dX2_run_3 : decode cX2_run 3 = .ok (.aload_n 0, 1) := by decide +kernel
theorem dX2_run_4 : decode cX2_run 4 = .ok (.getfield 33, 3) := by decide +kernel
theorem dX2_run_7 : decode cX2_run 7 = .ok (.if_icmp .ge 38, 3) := by decide +kernel
theorem dX2_run_10 : decode cX2_run 10 = .ok (.aload_n 0, 1) := by decide +kernel
theorem dX2_run_11 : decode cX2_run 11 = .ok (.getfield 11, 3) := by decide +kernel
theorem dX2_run_14 : decode cX2_run 14 = .ok (.iload_n 2, 1) := by decide +kernel
theorem dX2_run_15 : decode cX2_run 15 = .ok (.aaload, 1) := by decide +kernel
theorem dX2_run_16 : decode cX2_run 16 = .ok (.invokevirtual 43, 3) := by decide +kernel
theorem dX2_run_19 : decode cX2_run 19 = .ok (.ifCond .ne 20, 3) := by decide +kernel
theorem dX2_run_22 : decode cX2_run 22 = .ok (.aload_n 0, 1) := by decide +kernel
theorem dX2_run_23 : decode cX2_run 23 = .ok (.getfield 29, 3) := by decide +kernel
theorem dX2_run_26 : decode cX2_run 26 = .ok (.aload_n 0, 1) := by decide +kernel
theorem dX2_run_27 : decode cX2_run 27 = .ok (.getfield 11, 3) := by decide +kernel
theorem dX2_run_30 : decode cX2_run 30 = .ok (.iload_n 2, 1) := by decide +kernel
theorem dX2_run_31 : decode cX2_run 31 = .ok (.aaload, 1) := by decide +kernel
theorem dX2_run_32 : decode cX2_run 32 = .ok (.getfield 47, 3) := by decide +kernel
theorem dX2_run_35 : decode cX2_run 35 = .ok (.aaload, 1) := by decide +kernel
theorem dX2_run_36 : decode cX2_run 36 = .ok (.invokevirtual 50, 3) := by decide +kernel
theorem dX2_run_39 : decode cX2_run 39 = .ok (.iinc 2 1, 3) := by decide +kernel
theorem dX2_run_42 : decode cX2_run 42 = .ok (.goto (-40), 3) := by decide +kernel
theorem dX2_run_45 : decode cX2_run 45 = .ok (.iconst 0, 1) := by decide +kernel
theorem dX2_run_46 : decode cX2_run 46 = .ok (.istore_n 2, 1) := by decide +kernel
theorem dX2_run_47 : decode cX2_run 47 = .ok (.iload_n 2, 1) := by decide +kernel
theorem dX2_run_48 : decode cX2_run 48 = .ok (.iload_n 1, 1) := by decide +kernel
theorem dX2_run_49 : decode cX2_run 49 = .ok (.if_icmp .ge 13, 3) := by decide +kernel
theorem dX2_run_52 : decode cX2_run 52 = .ok (.aload_n 0, 1) := by decide +kernel
theorem dX2_run_53 : decode cX2_run 53 = .ok (.invokevirtual 55, 3) := by decide +kernel
theorem dX2_run_56 : decode cX2_run 56 = .ok (.iinc 2 1, 3) := by decide +kernel
theorem dX2_run_59 : decode cX2_run 59 = .ok (.goto (-12), 3) := by decide +kernel
theorem dX2_run_62 : decode cX2_run 62 = .ok (.return_, 1) := by decide +kernel
theorem dX2_step_0 : decode cX2_step 0 = .ok (.aload_n 0, 1) := by decide +kernel
theorem dX2_step_1 : decode cX2_step 1 = .ok (.getfield 17, 3) := by decide +kernel
theorem dX2_step_4 : decode cX2_step 4 = .ok (.lconst 0, 1) := by decide +kernel
theorem dX2_step_5 : decode cX2_step 5 = .ok (.invokestatic 58, 3) := by decide +kernel
theorem dX2_step_8 : decode cX2_step 8 = .ok (.iconst 0, 1) := by decide +kernel
theorem dX2_step_9 : decode cX2_step 9 = .ok (.istore_n 1, 1) := by decide +kernel
theorem dX2_step_10 : decode cX2_step 10 = .ok (.iload_n 1, 1) := by decide +kernel
theorem dX2_step_11 : decode cX2_step 11 = .ok (.aload_n 0, 1) := by decide +kernel
theorem dX2_step_12 : decode cX2_step 12 = .ok (.getfield 33, 3) := by decide +kernel
theorem dX2_step_15 : decode cX2_step 15 = .ok (.if_icmp .ge 31, 3) := by decide +kernel
theorem dX2_step_18 : decode cX2_step 18 = .ok (.aload_n 0, 1) := by decide +kernel
theorem dX2_step_19 : decode cX2_step 19 = .ok (.getfield 11, 3) := by decide +kernel
theorem dX2_step_22 : decode cX2_step 22 = .ok (.iload_n 1, 1) := by decide +kernel
theorem dX2_step_23 : decode cX2_step 23 = .ok (.aaload, 1) := by decide +kernel
theorem dX2_step_24 : decode cX2_step 24 = .ok (.invokevirtual 64, 3) := by decide +kernel
theorem dX2_step_27 : decode cX2_step 27 = .ok (.ifCond .eq 13, 3) := by decide +kernel
theorem dX2_step_30 : decode cX2_step 30 = .ok (.aload_n 0, 1) := by decide +kernel
theorem dX2_step_31 : decode cX2_step 31 = .ok (.aload_n 0, 1) := by decide +kernel
theorem dX2_step_32 : decode cX2_step 32 = .ok (.getfield 11, 3) := by decide +kernel
theorem dX2_step_35 : decode cX2_step 35 = .ok (.iload_n 1, 1) := by decide +kernel
theorem dX2_step_36 : decode cX2_step 36 = .ok (.aaload, 1) := by decide +kernel
theorem dX2_step_37 : decode cX2_step 37 = .ok (.invokevirtual 67, 3) := by decide +kernel
theorem dX2_step_40 : decode cX2_step 40 = .ok (.iinc 1 1, 3) := by decide +kernel
theorem dX2_step_43 : decode cX2_step 43 = .ok (.goto (-33), 3) := by decide +kernel
theorem dX2_step_46 : decode cX2_step 46 = .ok (.aload_n 0, 1) := by decide +kernel
theorem dX2_step_47 : decode cX2_step 47 = .ok (.dup, 1) := by decide +kernel
theorem dX2_step_48 : decode cX2_step 48 = .ok (.getfield 37, 3) := by decide +kernel
theorem dX2_step_51 : decode cX2_step 51 = .ok (.iconst 1, 1) := by decide +kernel
theorem dX2_step_52 : decode cX2_step 52 = .ok (.iadd, 1) := by decide +kernel
theorem dX2_step_53 : decode cX2_step 53 = .ok (.putfield 37, 3) := by decide +kernel
theorem dX2_step_56 : decode cX2_step 56 = .ok (.iconst 0, 1) := by decide +kernel
theorem dX2_step_57 : decode cX2_step 57 = .ok (.istore_n 1, 1) := by decide +kernel
theorem dX2_step_58 : decode cX2_step 58 = .ok (.iconst 0, 1) := by decide +kernel
theorem dX2_step_59 : decode cX2_step 59 = .ok (.istore_n 2, 1) := by decide +kernel
theorem dX2_step_60 : decode cX2_step 60 = .ok (.iload_n 2, 1) := by decide +kernel
theorem dX2_step_61 : decode cX2_step 61 = .ok (.aload_n 0, 1) := by decide +kernel
theorem dX2_step_62 : decode cX2_step 62 = .ok (.getfield 33, 3) := by decide +kernel
theorem dX2_step_65 : decode cX2_step 65 = .ok (.if_icmp .ge 53, 3) := by decide +kernel
theorem dX2_step_68 : decode cX2_step 68 = .ok (.aload_n 0, 1) := by decide +kernel
theorem dX2_step_69 : decode cX2_step 69 = .ok (.getfield 11, 3) := by decide +kernel
theorem dX2_step_72 : decode cX2_step 72 = .ok (.iload_n 2, 1) := by decide +kernel
theorem dX2_step_73 : decode cX2_step 73 = .ok (.aaload, 1) := by decide +kernel
theorem dX2_step_74 : decode cX2_step 74 = .ok (.getfield 71, 3) := by decide +kernel
theorem dX2_step_77 : decode cX2_step 77 = .ok (.iconst 2, 1) := by decide +kernel
theorem dX2_step_78 : decode cX2_step 78 = .ok (.if_icmp .ne 34, 3) := by decide +kernel
theorem dX2_step_81 : decode cX2_step 81 = .ok (.aload_n 0, 1) := by decide +kernel
theorem dX2_step_82 : decode cX2_step 82 = .ok (.getfield 11, 3) := by decide +kernel
theorem dX2_step_85 : decode cX2_step 85 = .ok (.iload_n 2, 1) := by decide +kernel
theorem dX2_step_86 : decode cX2_step 86 = .ok (.aaload, 1) := by decide +kernel
theorem dX2_step_87 : decode cX2_step 87 = .ok (.getfield 74, 3) := by decide +kernel
theorem dX2_step_90 : decode cX2_step 90 = .ok (.aload_n 0, 1) := by decide +kernel
theorem dX2_step_91 : decode cX2_step 91 = .ok (.getfield 37, 3) := by decide +kernel
theorem dX2_step_94 : decode cX2_step 94 = .ok (.if_icmp .gt 18, 3) := by decide +kernel
theorem dX2_step_97 : decode cX2_step 97 = .ok (.aload_n 0, 1) := by decide +kernel
theorem dX2_step_98 : decode cX2_step 98 = .ok (.getfield 11, 3) := by decide +kernel
theorem dX2_step_101 : decode cX2_step 101 = .ok (.iload_n 2, 1) := by decide +kernel
theorem dX2_step_102 : decode cX2_step 102 = .ok (.aaload, 1) := by decide +kernel
theorem dX2_step_103 : decode cX2_step 103 = .ok (.aload_n 0, 1) := by decide +kernel
theorem dX2_step_104 : decode cX2_step 104 = .ok (.getfield 37, 3) := by decide +kernel
theorem dX2_step_107 : decode cX2_step 107 = .ok (.invokevirtual 77, 3) := by decide +kernel
theorem dX2_step_110 : decode cX2_step 110 = .ok (.iconst 1, 1) := by decide +kernel
theorem dX2_step_111 : decode cX2_step 111 = .ok (.istore_n 1, 1) := by decide +kernel
theorem dX2_step_112 : decode cX2_step 112 = .ok (.iinc 2 1, 3) := by decide +kernel
theorem dX2_step_115 : decode cX2_step 115 = .ok (.goto (-55), 3) := by decide +kernel
theorem dX2_step_118 : decode cX2_step 118 = .ok (.iload_n 1, 1) := by decide +kernel
theorem dX2_step_119 : decode cX2_step 119 = .ok (.ifCond .eq 7, 3) := by decide +kernel
theorem dX2_step_122 : decode cX2_step 122 = .ok (.aload_n 0, 1) := by decide +kernel
theorem dX2_step_123 : decode cX2_step 123 = .ok (.invokevirtual 81, 3) := by decide +kernel
theorem dX2_step_126 : decode cX2_step 126 = .ok (.return_, 1) := by decide +kernel
theorem dX2_setOut_0 : decode cX2_setOut 0 = .ok (.aload_n 0, 1) := by decide +kernel
theorem dX2_setOut_1 : decode cX2_setOut 1 = .ok (.aload_n 1, 1) := by decide +kernel
theorem dX2_setOut_2 : decode cX2_setOut 2 = .ok (.invokevirtual 84, 3) := by decide +kernel
theorem dX2_setOut_5 : decode cX2_setOut 5 = .ok (.istore_n 2, 1) := by decide +kernel
theorem dX2_setOut_6 : decode cX2_setOut 6 = .ok (.iload_n 2, 1) := by decide +kernel
theorem dX2_setOut_7 : decode cX2_setOut 7 = .ok (.iconst (-1), 1) := by decide +kernel
theorem dX2_setOut_8 : decode cX2_setOut 8 = .ok (.if_icmp .eq 22, 3) := by decide +kernel
theorem dX2_setOut_11 : decode cX2_setOut 11 = .ok (.aload_n 0, 1) := by decide +kernel
theorem dX2_setOut_12 : decode cX2_setOut 12 = .ok (.getfield 17, 3) := by decide +kernel
theorem dX2_setOut_15 : decode cX2_setOut 15 = .ok (.aload_n 1, 1) := by decide +kernel
theorem dX2_setOut_16 : decode cX2_setOut 16 = .ok (.getfield 88, 3) := by decide +kernel
theorem dX2_setOut_19 : decode cX2_setOut 19 = .ok (.laload, 1) := by decide +kernel
theorem dX2_setOut_20 : decode cX2_setOut 20 = .ok (.iload_n 2, 1) := by decide +kernel
theorem dX2_setOut_21 : decode cX2_setOut 21 = .ok (.invokestatic 91, 3) := by decide +kernel
theorem dX2_setOut_24 : decode cX2_setOut 24 = .ok (.land, 1) := by decide +kernel
theorem dX2_setOut_25 : decode cX2_setOut 25 = .ok (.lconst 0, 1) := by decide +kernel
theorem dX2_setOut_26 : decode cX2_setOut 26 = .ok (.lcmp, 1) := by decide +kernel
theorem dX2_setOut_27 : decode cX2_setOut 27 = .ok (.ifCond .eq 4, 3) := by decide +kernel
theorem dX2_setOut_30 : decode cX2_setOut 30 = .ok (.return_, 1) := by decide +kernel
theorem dX2_setOut_31 : decode cX2_setOut 31 = .ok (.aload_n 0, 1) := by decide +kernel
theorem dX2_setOut_32 : decode cX2_setOut 32 = .ok (.getfield 17, 3) := by decide +kernel
theorem dX2_setOut_35 : decode cX2_setOut 35 = .ok (.aload_n 1, 1) := by decide +kernel
theorem dX2_setOut_36 : decode cX2_setOut 36 = .ok (.getfield 88, 3) := by decide +kernel
theorem dX2_setOut_39 : decode cX2_setOut 39 = .ok (.dup2, 1) := by decide +kernel
theorem dX2_setOut_40 : decode cX2_setOut 40 = .ok (.laload, 1) := by decide +kernel
theorem dX2_setOut_41 : decode cX2_setOut 41 = .ok (.iload_n 2, 1) := by decide +kernel
theorem dX2_setOut_42 : decode cX2_setOut 42 = .ok (.invokestatic 91, 3) := by decide +kernel
theorem dX2_setOut_45 : decode cX2_setOut 45 = .ok (.lor, 1) := by decide +kernel
theorem dX2_setOut_46 : decode cX2_setOut 46 = .ok (.lastore, 1) := by decide +kernel
theorem dX2_setOut_47 : decode cX2_setOut 47 = .ok (.aload_n 1, 1) := by decide +kernel
theorem dX2_setOut_48 : decode cX2_setOut 48 = .ok (.iload_n 2, 1) := by decide +kernel
theorem dX2_setOut_49 : decode cX2_setOut 49 = .ok (.aload_n 0, 1) := by decide +kernel
theorem dX2_setOut_50 : decode cX2_setOut 50 = .ok (.getfield 37, 3) := by decide +kernel
theorem dX2_setOut_53 : decode cX2_setOut 53 = .ok (.aload_n 0, 1) := by decide +kernel
theorem dX2_setOut_54 : decode cX2_setOut 54 = .ok (.getfield 25, 3) := by decide +kernel
theorem dX2_setOut_57 : decode cX2_setOut 57 = .ok (.aload_n 1, 1) := by decide +kernel
theorem dX2_setOut_58 : decode cX2_setOut 58 = .ok (.getfield 88, 3) := by decide +kernel
theorem dX2_setOut_61 : decode cX2_setOut 61 = .ok (.iload_n 2, 1) := by decide +kernel
theorem dX2_setOut_62 : decode cX2_setOut 62 = .ok (.invokevirtual 95, 3) := by decide +kernel
theorem dX2_setOut_65 : decode cX2_setOut 65 = .ok (.iadd, 1) := by decide +kernel
theorem dX2_setOut_66 : decode cX2_setOut 66 = .ok (.invokevirtual 101, 3) := by decide +kernel
theorem dX2_setOut_69 : decode cX2_setOut 69 = .ok (.return_, 1) := by decide +kernel
theorem dX2_choose_0 : decode cX2_choose 0 = .ok (.aload_n 0, 1) := by decide +kernel
theorem dX2_choose_1 : decode cX2_choose 1 = .ok (.getfield 29, 3) := by decide +kernel
theorem dX2_choose_4 : decode cX2_choose 4 = .ok (.aload_n 1, 1) := by decide +kernel
theorem dX2_choose_5 : decode cX2_choose 5 = .ok (.getfield 47, 3) := by decide +kernel
theorem dX2_choose_8 : decode cX2_choose 8 = .ok (.aaload, 1) := by decide +kernel
theorem dX2_choose_9 : decode cX2_choose 9 = .ok (.astore_n 2, 1) := by decide +kernel
theorem dX2_choose_10 : decode cX2_choose 10 = .ok (.aload_n 1, 1) := by decide +kernel
theorem dX2_choose_11 : decode cX2_choose 11 = .ok (.getfield 88, 3) := by decide +kernel
theorem dX2_choose_14 : decode cX2_choose 14 = .ok (.istore_n 3, 1) := by decide +kernel
theorem dX2_choose_15 : decode cX2_choose 15 = .ok (.aload_n 2, 1) := by decide +kernel
theorem dX2_choose_16 : decode cX2_choose 16 = .ok (.iload_n 3, 1) := by decide +kernel
theorem dX2_choose_17 : decode cX2_choose 17 = .ok (.aload_n 0, 1) := by decide +kernel
theorem dX2_choose_18 : decode cX2_choose 18 = .ok (.getfield 37, 3) := by decide +kernel
theorem dX2_choose_21 : decode cX2_choose 21 = .ok (.invokevirtual 105, 3) := by decide +kernel
theorem dX2_choose_24 : decode cX2_choose 24 = .ok (.istore 4, 2) := by decide +kernel
theorem dX2_choose_26 : decode cX2_choose 26 = .ok (.iload 4, 2) := by decide +kernel
theorem dX2_choose_28 : decode cX2_choose 28 = .ok (.iconst (-1), 1) := by decide +kernel
theorem dX2_choose_29 : decode cX2_choose 29 = .ok (.if_icmp .ne 5, 3) := by decide +kernel
theorem dX2_choose_32 : decode cX2_choose 32 = .ok (.iconst (-1), 1) := by decide +kernel
theorem dX2_choose_33 : decode cX2_choose 33 = .ok (.ireturn, 1) := by decide +kernel
theorem dX2_choose_34 : decode cX2_choose 34 = .ok (.iload_n 3, 1) := by decide +kernel
theorem dX2_choose_35 : decode cX2_choose 35 = .ok (.invokestatic 108, 3) := by decide +kernel
theorem dX2_choose_38 : decode cX2_choose 38 = .ok (.ifCond .eq 33, 3) := by decide +kernel
theorem dX2_choose_41 : decode cX2_choose 41 = .ok (.aload_n 0, 1) := by decide +kernel
theorem dX2_choose_42 : decode cX2_choose 42 = .ok (.aload_n 0, 1) := by decide +kernel
theorem dX2_choose_43 : decode cX2_choose 43 = .ok (.getfield 25, 3) := by decide +kernel
theorem dX2_choose_46 : decode cX2_choose 46 = .ok (.aload_n 1, 1) := by decide +kernel
theorem dX2_choose_47 : decode cX2_choose 47 = .ok (.getfield 47, 3) := by decide +kernel
theorem dX2_choose_50 : decode cX2_choose 50 = .ok (.invokestatic 112, 3) := by decide +kernel
theorem dX2_choose_53 : decode cX2_choose 53 = .ok (.iload_n 3, 1) := by decide +kernel
theorem dX2_choose_54 : decode cX2_choose 54 = .ok (.invokevirtual 116, 3) := by decide +kernel
theorem dX2_choose_57 : decode cX2_choose 57 = .ok (.invokevirtual 119, 3) := by decide +kernel
theorem dX2_choose_60 : decode cX2_choose 60 = .ok (.ifCond .eq 11, 3) := by decide +kernel
theorem dX2_choose_63 : decode cX2_choose 63 = .ok (.aload_n 1, 1) := by decide +kernel
theorem dX2_choose_64 : decode cX2_choose 64 = .ok (.getfield 47, 3) := by decide +kernel
theorem dX2_choose_67 : decode cX2_choose 67 = .ok (.invokestatic 112, 3) := by decide +kernel
theorem dX2_choose_70 : decode cX2_choose 70 = .ok (.ireturn, 1) := by decide +kernel
theorem dX2_choose_71 : decode cX2_choose 71 = .ok (.aload_n 0, 1) := by decide +kernel
theorem dX2_choose_72 : decode cX2_choose 72 = .ok (.getfield 25, 3) := by decide +kernel
theorem dX2_choose_75 : decode cX2_choose 75 = .ok (.iload_n 3, 1) := by decide +kernel
theorem dX2_choose_76 : decode cX2_choose 76 = .ok (.invokevirtual 122, 3) := by decide +kernel
theorem dX2_choose_79 : decode cX2_choose 79 = .ok (.istore 5, 2) := by decide +kernel
theorem dX2_choose_81 : decode cX2_choose 81 = .ok (.aload_n 0, 1) := by decide +kernel
theorem dX2_choose_82 : decode cX2_choose 82 = .ok (.getfield 25, 3) := by decide +kernel
theorem dX2_choose_85 : decode cX2_choose 85 = .ok (.iload_n 3, 1) := by decide +kernel
theorem dX2_choose_86 : decode cX2_choose 86 = .ok (.invokevirtual 125, 3) := by decide +kernel
theorem dX2_choose_89 : decode cX2_choose 89 = .ok (.istore 6, 2) := by decide +kernel
theorem dX2_choose_91 : decode cX2_choose 91 = .ok (.iload 6, 2) := by decide +kernel
theorem dX2_choose_93 : decode cX2_choose 93 = .ok (.iload 5, 2) := by decide +kernel
theorem dX2_choose_95 : decode cX2_choose 95 = .ok (.if_icmp .ge 72, 3) := by decide +kernel
theorem dX2_choose_98 : decode cX2_choose 98 = .ok (.aload_n 0, 1) := by decide +kernel
theorem dX2_choose_99 : decode cX2_choose 99 = .ok (.aload_n 0, 1) := by decide +kernel
theorem dX2_choose_100 : decode cX2_choose 100 = .ok (.getfield 25, 3) := by decide +kernel
theorem dX2_choose_103 : decode cX2_choose 103 = .ok (.iload_n 3, 1) := by decide +kernel
theorem dX2_choose_104 : decode cX2_choose 104 = .ok (.iload 6, 2) := by decide +kernel
theorem dX2_choose_106 : decode cX2_choose 106 = .ok (.invokevirtual 116, 3) := by decide +kernel
theorem dX2_choose_109 : decode cX2_choose 109 = .ok (.invokevirtual 119, 3) := by decide +kernel
theorem dX2_choose_112 : decode cX2_choose 112 = .ok (.ifCond .eq 49, 3) := by decide +kernel
theorem dX2_choose_115 : decode cX2_choose 115 = .ok (.aload_n 0, 1) := by decide +kernel
theorem dX2_choose_116 : decode cX2_choose 116 = .ok (.getfield 25, 3) := by decide +kernel
theorem dX2_choose_119 : decode cX2_choose 119 = .ok (.iload_n 3, 1) := by decide +kernel
theorem dX2_choose_120 : decode cX2_choose 120 = .ok (.iload 6, 2) := by decide +kernel
theorem dX2_choose_122 : decode cX2_choose 122 = .ok (.invokevirtual 95, 3) := by decide +kernel
theorem dX2_choose_125 : decode cX2_choose 125 = .ok (.istore 7, 2) := by decide +kernel
theorem dX2_choose_127 : decode cX2_choose 127 = .ok (.aload_n 2, 1) := by decide +kernel
theorem dX2_choose_128 : decode cX2_choose 128 = .ok (.iload 6, 2) := by decide +kernel
theorem dX2_choose_130 : decode cX2_choose 130 = .ok (.aload_n 0, 1) := by decide +kernel
theorem dX2_choose_131 : decode cX2_choose 131 = .ok (.getfield 37, 3) := by decide +kernel
theorem dX2_choose_134 : decode cX2_choose 134 = .ok (.iload 7, 2) := by decide +kernel
theorem dX2_choose_136 : decode cX2_choose 136 = .ok (.iadd, 1) := by decide +kernel
theorem dX2_choose_137 : decode cX2_choose 137 = .ok (.invokevirtual 105, 3) := by decide +kernel
theorem dX2_choose_140 : decode cX2_choose 140 = .ok (.istore 8, 2) := by decide +kernel
theorem dX2_choose_142 : decode cX2_choose 142 = .ok (.iload 8, 2) := by decide +kernel
theorem dX2_choose_144 : decode cX2_choose 144 = .ok (.iconst (-1), 1) := by decide +kernel
theorem dX2_choose_145 : decode cX2_choose 145 = .ok (.if_icmp .eq 16, 3) := by decide +kernel
theorem dX2_choose_148 : decode cX2_choose 148 = .ok (.iload 7, 2) := by decide +kernel
theorem dX2_choose_150 : decode cX2_choose 150 = .ok (.iload 8, 2) := by decide +kernel
theorem dX2_choose_152 : decode cX2_choose 152 = .ok (.iadd, 1) := by decide +kernel
theorem dX2_choose_153 : decode cX2_choose 153 = .ok (.iload 4, 2) := by decide +kernel
theorem dX2_choose_155 : decode cX2_choose 155 = .ok (.if_icmp .ne 6, 3) := by decide +kernel
theorem dX2_choose_158 : decode cX2_choose 158 = .ok (.iload 6, 2) := by decide +kernel
theorem dX2_choose_160 : decode cX2_choose 160 = .ok (.ireturn, 1) := by decide +kernel
theorem dX2_choose_161 : decode cX2_choose 161 = .ok (.iinc 6 1, 3) := by decide +kernel
theorem dX2_choose_164 : decode cX2_choose 164 = .ok (.goto (-73), 3) := by decide +kernel
theorem dX2_choose_167 : decode cX2_choose 167 = .ok (.iconst (-1), 1) := by decide +kernel
theorem dX2_choose_168 : decode cX2_choose 168 = .ok (.ireturn, 1) := by decide +kernel
theorem dX2_isNow_0 : decode cX2_isNow 0 = .ok (.iload_n 1, 1) := by decide +kernel
theorem dX2_isNow_1 : decode cX2_isNow 1 = .ok (.aload_n 0, 1) := by decide +kernel
theorem dX2_isNow_2 : decode cX2_isNow 2 = .ok (.getfield 37, 3) := by decide +kernel
theorem dX2_isNow_5 : decode cX2_isNow 5 = .ok (.bipush 31, 2) := by decide +kernel
theorem dX2_isNow_7 : decode cX2_isNow 7 = .ok (.iand, 1) := by decide +kernel
theorem dX2_isNow_8 : decode cX2_isNow 8 = .ok (.iushr, 1) := by decide +kernel
theorem dX2_isNow_9 : decode cX2_isNow 9 = .ok (.iconst 1, 1) := by decide +kernel
theorem dX2_isNow_10 : decode cX2_isNow 10 = .ok (.iand, 1) := by decide +kernel
theorem dX2_isNow_11 : decode cX2_isNow 11 = .ok (.ifCond .eq 7, 3) := by decide +kernel
theorem dX2_isNow_14 : decode cX2_isNow 14 = .ok (.iconst 1, 1) := by decide +kernel
theorem dX2_isNow_15 : decode cX2_isNow 15 = .ok (.goto 4, 3) := by decide +kernel
theorem dX2_isNow_18 : decode cX2_isNow 18 = .ok (.iconst 0, 1) := by decide +kernel
theorem dX2_isNow_19 : decode cX2_isNow 19 = .ok (.ireturn, 1) := by decide +kernel
theorem dX2_lose_0 : decode cX2_lose 0 = .ok (.iconst 0, 1) := by decide +kernel
theorem dX2_lose_1 : decode cX2_lose 1 = .ok (.istore_n 2, 1) := by decide +kernel
theorem dX2_lose_2 : decode cX2_lose 2 = .ok (.iload_n 2, 1) := by decide +kernel
theorem dX2_lose_3 : decode cX2_lose 3 = .ok (.aload_n 0, 1) := by decide +kernel
theorem dX2_lose_4 : decode cX2_lose 4 = .ok (.getfield 33, 3) := by decide +kernel
theorem dX2_lose_7 : decode cX2_lose 7 = .ok (.if_icmp .ge 32, 3) := by decide +kernel
theorem dX2_lose_10 : decode cX2_lose 10 = .ok (.aload_n 0, 1) := by decide +kernel
theorem dX2_lose_11 : decode cX2_lose 11 = .ok (.getfield 11, 3) := by decide +kernel
theorem dX2_lose_14 : decode cX2_lose 14 = .ok (.iload_n 2, 1) := by decide +kernel
theorem dX2_lose_15 : decode cX2_lose 15 = .ok (.aaload, 1) := by decide +kernel
theorem dX2_lose_16 : decode cX2_lose 16 = .ok (.iload_n 1, 1) := by decide +kernel
theorem dX2_lose_17 : decode cX2_lose 17 = .ok (.invokevirtual 128, 3) := by decide +kernel
theorem dX2_lose_20 : decode cX2_lose 20 = .ok (.ifCond .eq 13, 3) := by decide +kernel
theorem dX2_lose_23 : decode cX2_lose 23 = .ok (.aload_n 0, 1) := by decide +kernel
theorem dX2_lose_24 : decode cX2_lose 24 = .ok (.getfield 11, 3) := by decide +kernel
theorem dX2_lose_27 : decode cX2_lose 27 = .ok (.iload_n 2, 1) := by decide +kernel
theorem dX2_lose_28 : decode cX2_lose 28 = .ok (.aaload, 1) := by decide +kernel
theorem dX2_lose_29 : decode cX2_lose 29 = .ok (.iconst 5, 1) := by decide +kernel
theorem dX2_lose_30 : decode cX2_lose 30 = .ok (.putfield 71, 3) := by decide +kernel
theorem dX2_lose_33 : decode cX2_lose 33 = .ok (.iinc 2 1, 3) := by decide +kernel
theorem dX2_lose_36 : decode cX2_lose 36 = .ok (.goto (-34), 3) := by decide +kernel
theorem dX2_lose_39 : decode cX2_lose 39 = .ok (.aload_n 0, 1) := by decide +kernel
theorem dX2_lose_40 : decode cX2_lose 40 = .ok (.invokevirtual 81, 3) := by decide +kernel
theorem dX2_lose_43 : decode cX2_lose 43 = .ok (.return_, 1) := by decide +kernel
theorem dX2_handOut_0 : decode cX2_handOut 0 = .ok (.aload_n 0, 1) := by decide +kernel
theorem dX2_handOut_1 : decode cX2_handOut 1 = .ok (.getfield 21, 3) := by decide +kernel
theorem dX2_handOut_4 : decode cX2_handOut 4 = .ok (.iconst 0, 1) := by decide +kernel
theorem dX2_handOut_5 : decode cX2_handOut 5 = .ok (.invokestatic 131, 3) := by decide +kernel
theorem dX2_handOut_8 : decode cX2_handOut 8 = .ok (.iconst 0, 1) := by decide +kernel
theorem dX2_handOut_9 : decode cX2_handOut 9 = .ok (.istore_n 1, 1) := by decide +kernel
theorem dX2_handOut_10 : decode cX2_handOut 10 = .ok (.iload_n 1, 1) := by decide +kernel
theorem dX2_handOut_11 : decode cX2_handOut 11 = .ok (.aload_n 0, 1) := by decide +kernel
theorem dX2_handOut_12 : decode cX2_handOut 12 = .ok (.getfield 33, 3) := by decide +kernel
theorem dX2_handOut_15 : decode cX2_handOut 15 = .ok (.if_icmp .ge 94, 3) := by decide +kernel
theorem dX2_handOut_18 : decode cX2_handOut 18 = .ok (.aload_n 0, 1) := by decide +kernel
theorem dX2_handOut_19 : decode cX2_handOut 19 = .ok (.getfield 11, 3) := by decide +kernel
theorem dX2_handOut_22 : decode cX2_handOut 22 = .ok (.iload_n 1, 1) := by decide +kernel
theorem dX2_handOut_23 : decode cX2_handOut 23 = .ok (.aaload, 1) := by decide +kernel
theorem dX2_handOut_24 : decode cX2_handOut 24 = .ok (.astore_n 2, 1) := by decide +kernel
theorem dX2_handOut_25 : decode cX2_handOut 25 = .ok (.aload_n 0, 1) := by decide +kernel
theorem dX2_handOut_26 : decode cX2_handOut 26 = .ok (.getfield 21, 3) := by decide +kernel
theorem dX2_handOut_29 : decode cX2_handOut 29 = .ok (.aload_n 2, 1) := by decide +kernel
theorem dX2_handOut_30 : decode cX2_handOut 30 = .ok (.getfield 134, 3) := by decide +kernel
theorem dX2_handOut_33 : decode cX2_handOut 33 = .ok (.iaload, 1) := by decide +kernel
theorem dX2_handOut_34 : decode cX2_handOut 34 = .ok (.aload_n 2, 1) := by decide +kernel
theorem dX2_handOut_35 : decode cX2_handOut 35 = .ok (.getfield 47, 3) := by decide +kernel
theorem dX2_handOut_38 : decode cX2_handOut 38 = .ok (.iushr, 1) := by decide +kernel
theorem dX2_handOut_39 : decode cX2_handOut 39 = .ok (.iconst 1, 1) := by decide +kernel
theorem dX2_handOut_40 : decode cX2_handOut 40 = .ok (.iand, 1) := by decide +kernel
theorem dX2_handOut_41 : decode cX2_handOut 41 = .ok (.ifCond .ne 7, 3) := by decide +kernel
theorem dX2_handOut_44 : decode cX2_handOut 44 = .ok (.iconst 1, 1) := by decide +kernel
theorem dX2_handOut_45 : decode cX2_handOut 45 = .ok (.goto 4, 3) := by decide +kernel
theorem dX2_handOut_48 : decode cX2_handOut 48 = .ok (.iconst 0, 1) := by decide +kernel
theorem dX2_handOut_49 : decode cX2_handOut 49 = .ok (.istore_n 3, 1) := by decide +kernel
theorem dX2_handOut_50 : decode cX2_handOut 50 = .ok (.aload_n 2, 1) := by decide +kernel
theorem dX2_handOut_51 : decode cX2_handOut 51 = .ok (.getfield 71, 3) := by decide +kernel
theorem dX2_handOut_54 : decode cX2_handOut 54 = .ok (.iconst 3, 1) := by decide +kernel
theorem dX2_handOut_55 : decode cX2_handOut 55 = .ok (.if_icmp .ne 23, 3) := by decide +kernel
theorem dX2_handOut_58 : decode cX2_handOut 58 = .ok (.iload_n 3, 1) := by decide +kernel
theorem dX2_handOut_59 : decode cX2_handOut 59 = .ok (.ifCond .eq 19, 3) := by decide +kernel
theorem dX2_handOut_62 : decode cX2_handOut 62 = .ok (.aload_n 2, 1) := by decide +kernel
theorem dX2_handOut_63 : decode cX2_handOut 63 = .ok (.iconst 4, 1) := by decide +kernel
theorem dX2_handOut_64 : decode cX2_handOut 64 = .ok (.putfield 71, 3) := by decide +kernel
theorem dX2_handOut_67 : decode cX2_handOut 67 = .ok (.aload_n 2, 1) := by decide +kernel
theorem dX2_handOut_68 : decode cX2_handOut 68 = .ok (.aload_n 0, 1) := by decide +kernel
theorem dX2_handOut_69 : decode cX2_handOut 69 = .ok (.getfield 37, 3) := by decide +kernel
theorem dX2_handOut_72 : decode cX2_handOut 72 = .ok (.putfield 137, 3) := by decide +kernel
theorem dX2_handOut_75 : decode cX2_handOut 75 = .ok (.goto 28, 3) := by decide +kernel
theorem dX2_handOut_78 : decode cX2_handOut 78 = .ok (.aload_n 2, 1) := by decide +kernel
theorem dX2_handOut_79 : decode cX2_handOut 79 = .ok (.invokevirtual 43, 3) := by decide +kernel
theorem dX2_handOut_82 : decode cX2_handOut 82 = .ok (.ifCond .ne 21, 3) := by decide +kernel
theorem dX2_handOut_85 : decode cX2_handOut 85 = .ok (.aload_n 0, 1) := by decide +kernel
theorem dX2_handOut_86 : decode cX2_handOut 86 = .ok (.getfield 21, 3) := by decide +kernel
theorem dX2_handOut_89 : decode cX2_handOut 89 = .ok (.aload_n 2, 1) := by decide +kernel
theorem dX2_handOut_90 : decode cX2_handOut 90 = .ok (.getfield 134, 3) := by decide +kernel
theorem dX2_handOut_93 : decode cX2_handOut 93 = .ok (.dup2, 1) := by decide +kernel
theorem dX2_handOut_94 : decode cX2_handOut 94 = .ok (.iaload, 1) := by decide +kernel
theorem dX2_handOut_95 : decode cX2_handOut 95 = .ok (.iconst 1, 1) := by decide +kernel
theorem dX2_handOut_96 : decode cX2_handOut 96 = .ok (.aload_n 2, 1) := by decide +kernel
theorem dX2_handOut_97 : decode cX2_handOut 97 = .ok (.getfield 47, 3) := by decide +kernel
theorem dX2_handOut_100 : decode cX2_handOut 100 = .ok (.ishl, 1) := by decide +kernel
theorem dX2_handOut_101 : decode cX2_handOut 101 = .ok (.ior, 1) := by decide +kernel
theorem dX2_handOut_102 : decode cX2_handOut 102 = .ok (.iastore, 1) := by decide +kernel
theorem dX2_handOut_103 : decode cX2_handOut 103 = .ok (.iinc 1 1, 3) := by decide +kernel
theorem dX2_handOut_106 : decode cX2_handOut 106 = .ok (.goto (-96), 3) := by decide +kernel
theorem dX2_handOut_109 : decode cX2_handOut 109 = .ok (.return_, 1) := by decide +kernel
theorem dX2_lettersThatAre_0 : decode cX2_lettersThatAre 0 = .ok (.iconst 0, 1) := by decide +kernel
theorem dX2_lettersThatAre_1 : decode cX2_lettersThatAre 1 = .ok (.istore_n 2, 1) := by decide +kernel
theorem dX2_lettersThatAre_2 : decode cX2_lettersThatAre 2 = .ok (.iconst 0, 1) := by decide +kernel
theorem dX2_lettersThatAre_3 : decode cX2_lettersThatAre 3 = .ok (.istore_n 3, 1) := by decide +kernel
theorem dX2_lettersThatAre_4 : decode cX2_lettersThatAre 4 = .ok (.iload_n 3, 1) := by decide +kernel
theorem dX2_lettersThatAre_5 : decode cX2_lettersThatAre 5 = .ok (.aload_n 0, 1) := by decide +kernel
theorem dX2_lettersThatAre_6 : decode cX2_lettersThatAre 6 = .ok (.getfield 33, 3) := by decide +kernel
theorem dX2_lettersThatAre_9 : decode cX2_lettersThatAre 9 = .ok (.if_icmp .ge 25, 3) := by decide +kernel
theorem dX2_lettersThatAre_12 : decode cX2_lettersThatAre 12 = .ok (.aload_n 0, 1) := by decide +kernel
theorem dX2_lettersThatAre_13 : decode cX2_lettersThatAre 13 = .ok (.getfield 11, 3) := by decide +kernel
theorem dX2_lettersThatAre_16 : decode cX2_lettersThatAre 16 = .ok (.iload_n 3, 1) := by decide +kernel
theorem dX2_lettersThatAre_17 : decode cX2_lettersThatAre 17 = .ok (.aaload, 1) := by decide +kernel
theorem dX2_lettersThatAre_18 : decode cX2_lettersThatAre 18 = .ok (.getfield 71, 3) := by decide +kernel
theorem dX2_lettersThatAre_21 : decode cX2_lettersThatAre 21 = .ok (.iload_n 1, 1) := by decide +kernel
theorem dX2_lettersThatAre_22 : decode cX2_lettersThatAre 22 = .ok (.if_icmp .ne 6, 3) := by decide +kernel
theorem dX2_lettersThatAre_25 : decode cX2_lettersThatAre 25 = .ok (.iinc 2 1, 3) := by decide +kernel
theorem dX2_lettersThatAre_28 : decode cX2_lettersThatAre 28 = .ok (.iinc 3 1, 3) := by decide +kernel
theorem dX2_lettersThatAre_31 : decode cX2_lettersThatAre 31 = .ok (.goto (-27), 3) := by decide +kernel
theorem dX2_lettersThatAre_34 : decode cX2_lettersThatAre 34 = .ok (.iload_n 2, 1) := by decide +kernel
theorem dX2_lettersThatAre_35 : decode cX2_lettersThatAre 35 = .ok (.ireturn, 1) := by decide +kernel
