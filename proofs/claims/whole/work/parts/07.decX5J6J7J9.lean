theorem dX5_init_0 : decode cX5_init 0 = .ok (.aload_n 0, 1) := by decide +kernel
theorem dX5_init_1 : decode cX5_init 1 = .ok (.invokespecial 3, 3) := by decide +kernel
theorem dX5_init_4 : decode cX5_init 4 = .ok (.aload_n 0, 1) := by decide +kernel
theorem dX5_init_5 : decode cX5_init 5 = .ok (.new 9, 3) := by decide +kernel
theorem dX5_init_8 : decode cX5_init 8 = .ok (.dup, 1) := by decide +kernel
theorem dX5_init_9 : decode cX5_init 9 = .ok (.invokespecial 11, 3) := by decide +kernel
theorem dX5_init_12 : decode cX5_init 12 = .ok (.putfield 12, 3) := by decide +kernel
theorem dX5_init_15 : decode cX5_init 15 = .ok (.aload_n 0, 1) := by decide +kernel
theorem dX5_init_16 : decode cX5_init 16 = .ok (.bipush 8, 2) := by decide +kernel
theorem dX5_init_18 : decode cX5_init 18 = .ok (.anewarray 16, 3) := by decide +kernel
theorem dX5_init_21 : decode cX5_init 21 = .ok (.putfield 18, 3) := by decide +kernel
theorem dX5_init_24 : decode cX5_init 24 = .ok (.aload_n 0, 1) := by decide +kernel
theorem dX5_init_25 : decode cX5_init 25 = .ok (.new 22, 3) := by decide +kernel
theorem dX5_init_28 : decode cX5_init 28 = .ok (.dup, 1) := by decide +kernel
theorem dX5_init_29 : decode cX5_init 29 = .ok (.aload_n 0, 1) := by decide +kernel
theorem dX5_init_30 : decode cX5_init 30 = .ok (.getfield 12, 3) := by decide +kernel
theorem dX5_init_33 : decode cX5_init 33 = .ok (.invokespecial 24, 3) := by decide +kernel
theorem dX5_init_36 : decode cX5_init 36 = .ok (.putfield 27, 3) := by decide +kernel
theorem dX5_init_39 : decode cX5_init 39 = .ok (.aload_n 0, 1) := by decide +kernel
theorem dX5_init_40 : decode cX5_init 40 = .ok (.new 31, 3) := by decide +kernel
theorem dX5_init_43 : decode cX5_init 43 = .ok (.dup, 1) := by decide +kernel
theorem dX5_init_44 : decode cX5_init 44 = .ok (.aload_n 0, 1) := by decide +kernel
theorem dX5_init_45 : decode cX5_init 45 = .ok (.getfield 12, 3) := by decide +kernel
theorem dX5_init_48 : decode cX5_init 48 = .ok (.aload_n 0, 1) := by decide +kernel
theorem dX5_init_49 : decode cX5_init 49 = .ok (.getfield 18, 3) := by decide +kernel
theorem dX5_init_52 : decode cX5_init 52 = .ok (.invokespecial 33, 3) := by decide +kernel
theorem dX5_init_55 : decode cX5_init 55 = .ok (.putfield 36, 3) := by decide +kernel
theorem dX5_init_58 : decode cX5_init 58 = .ok (.return_, 1) := by decide +kernel
theorem dX5_plane_0 : decode cX5_plane 0 = .ok (.aload_n 0, 1) := by decide +kernel
theorem dX5_plane_1 : decode cX5_plane 1 = .ok (.invokevirtual 40, 3) := by decide +kernel
theorem dX5_plane_4 : decode cX5_plane 4 = .ok (.iload_n 1, 1) := by decide +kernel
theorem dX5_plane_5 : decode cX5_plane 5 = .ok (.iconst 1, 1) := by decide +kernel
theorem dX5_plane_6 : decode cX5_plane 6 = .ok (.bipush 8, 2) := by decide +kernel
theorem dX5_plane_8 : decode cX5_plane 8 = .ok (.invokestatic 43, 3) := by decide +kernel
theorem dX5_plane_11 : decode cX5_plane 11 = .ok (.iload_n 2, 1) := by decide +kernel
theorem dX5_plane_12 : decode cX5_plane 12 = .ok (.iconst 0, 1) := by decide +kernel
theorem dX5_plane_13 : decode cX5_plane 13 = .ok (.bipush 31, 2) := by decide +kernel
theorem dX5_plane_15 : decode cX5_plane 15 = .ok (.invokestatic 43, 3) := by decide +kernel
theorem dX5_plane_18 : decode cX5_plane 18 = .ok (.iload_n 3, 1) := by decide +kernel
theorem dX5_plane_19 : decode cX5_plane 19 = .ok (.bipush (-3), 2) := by decide +kernel
theorem dX5_plane_21 : decode cX5_plane 21 = .ok (.iconst 3, 1) := by decide +kernel
theorem dX5_plane_22 : decode cX5_plane 22 = .ok (.invokestatic 43, 3) := by decide +kernel
theorem dX5_plane_25 : decode cX5_plane 25 = .ok (.aload_n 0, 1) := by decide +kernel
theorem dX5_plane_26 : decode cX5_plane 26 = .ok (.getfield 12, 3) := by decide +kernel
theorem dX5_plane_29 : decode cX5_plane 29 = .ok (.getfield 47, 3) := by decide +kernel
theorem dX5_plane_32 : decode cX5_plane 32 = .ok (.bipush 6, 2) := by decide +kernel
theorem dX5_plane_34 : decode cX5_plane 34 = .ok (.if_icmp .lt 13, 3) := by decide +kernel
theorem dX5_plane_37 : decode cX5_plane 37 = .ok (.new 51, 3) := by decide +kernel
theorem dX5_plane_40 : decode cX5_plane 40 = .ok (.dup, 1) := by decide +kernel
theorem dX5_plane_41 : decode cX5_plane 41 = .ok (.ldc 53, 2) := by decide +kernel
theorem dX5_plane_43 : decode cX5_plane 43 = .ok (.invokespecial 55, 3) := by decide +kernel
theorem dX5_plane_46 : decode cX5_plane 46 = .ok (.athrow, 1) := by decide +kernel
theorem dX5_plane_47 : decode cX5_plane 47 = .ok (.aload_n 0, 1) := by decide +kernel
theorem dX5_plane_48 : decode cX5_plane 48 = .ok (.getfield 12, 3) := by decide +kernel
theorem dX5_plane_51 : decode cX5_plane 51 = .ok (.iload_n 1, 1) := by decide +kernel
theorem dX5_plane_52 : decode cX5_plane 52 = .ok (.iload_n 2, 1) := by decide +kernel
theorem dX5_plane_53 : decode cX5_plane 53 = .ok (.iload_n 3, 1) := by decide +kernel
theorem dX5_plane_54 : decode cX5_plane 54 = .ok (.invokevirtual 58, 3) := by decide +kernel
theorem dX5_plane_57 : decode cX5_plane 57 = .ok (.ireturn, 1) := by decide +kernel
theorem dX5_post_0 : decode cX5_post 0 = .ok (.aload_n 0, 1) := by decide +kernel
theorem dX5_post_1 : decode cX5_post 1 = .ok (.invokevirtual 40, 3) := by decide +kernel
theorem dX5_post_4 : decode cX5_post 4 = .ok (.iload_n 1, 1) := by decide +kernel
theorem dX5_post_5 : decode cX5_post 5 = .ok (.iconst 0, 1) := by decide +kernel
theorem dX5_post_6 : decode cX5_post 6 = .ok (.bipush 31, 2) := by decide +kernel
theorem dX5_post_8 : decode cX5_post 8 = .ok (.invokestatic 43, 3) := by decide +kernel
theorem dX5_post_11 : decode cX5_post 11 = .ok (.iload_n 2, 1) := by decide +kernel
theorem dX5_post_12 : decode cX5_post 12 = .ok (.iconst 0, 1) := by decide +kernel
theorem dX5_post_13 : decode cX5_post 13 = .ok (.iconst 5, 1) := by decide +kernel
theorem dX5_post_14 : decode cX5_post 14 = .ok (.invokestatic 43, 3) := by decide +kernel
theorem dX5_post_17 : decode cX5_post 17 = .ok (.iload_n 3, 1) := by decide +kernel
theorem dX5_post_18 : decode cX5_post 18 = .ok (.iconst 0, 1) := by decide +kernel
theorem dX5_post_19 : decode cX5_post 19 = .ok (.bipush 8, 2) := by decide +kernel
theorem dX5_post_21 : decode cX5_post 21 = .ok (.invokestatic 43, 3) := by decide +kernel
theorem dX5_post_24 : decode cX5_post 24 = .ok (.aload_n 0, 1) := by decide +kernel
theorem dX5_post_25 : decode cX5_post 25 = .ok (.getfield 12, 3) := by decide +kernel
theorem dX5_post_28 : decode cX5_post 28 = .ok (.getfield 62, 3) := by decide +kernel
theorem dX5_post_31 : decode cX5_post 31 = .ok (.bipush 8, 2) := by decide +kernel
theorem dX5_post_33 : decode cX5_post 33 = .ok (.if_icmp .lt 13, 3) := by decide +kernel
theorem dX5_post_36 : decode cX5_post 36 = .ok (.new 51, 3) := by decide +kernel
theorem dX5_post_39 : decode cX5_post 39 = .ok (.dup, 1) := by decide +kernel
theorem dX5_post_40 : decode cX5_post 40 = .ok (.ldc 65, 2) := by decide +kernel
theorem dX5_post_42 : decode cX5_post 42 = .ok (.invokespecial 55, 3) := by decide +kernel
theorem dX5_post_45 : decode cX5_post 45 = .ok (.athrow, 1) := by decide +kernel
theorem dX5_post_46 : decode cX5_post 46 = .ok (.aload_n 0, 1) := by decide +kernel
theorem dX5_post_47 : decode cX5_post 47 = .ok (.getfield 12, 3) := by decide +kernel
theorem dX5_post_50 : decode cX5_post 50 = .ok (.iload_n 1, 1) := by decide +kernel
theorem dX5_post_51 : decode cX5_post 51 = .ok (.iload_n 2, 1) := by decide +kernel
theorem dX5_post_52 : decode cX5_post 52 = .ok (.iload_n 3, 1) := by decide +kernel
theorem dX5_post_53 : decode cX5_post 53 = .ok (.invokevirtual 67, 3) := by decide +kernel
theorem dX5_post_56 : decode cX5_post 56 = .ok (.istore 4, 2) := by decide +kernel
theorem dX5_post_58 : decode cX5_post 58 = .ok (.aload_n 0, 1) := by decide +kernel
theorem dX5_post_59 : decode cX5_post 59 = .ok (.getfield 18, 3) := by decide +kernel
theorem dX5_post_62 : decode cX5_post 62 = .ok (.iload 4, 2) := by decide +kernel
theorem dX5_post_64 : decode cX5_post 64 = .ok (.new 16, 3) := by decide +kernel
theorem dX5_post_67 : decode cX5_post 67 = .ok (.dup, 1) := by decide +kernel
theorem dX5_post_68 : decode cX5_post 68 = .ok (.aload_n 0, 1) := by decide +kernel
theorem dX5_post_69 : decode cX5_post 69 = .ok (.getfield 12, 3) := by decide +kernel
theorem dX5_post_72 : decode cX5_post 72 = .ok (.iload 4, 2) := by decide +kernel
theorem dX5_post_74 : decode cX5_post 74 = .ok (.invokespecial 70, 3) := by decide +kernel
theorem dX5_post_77 : decode cX5_post 77 = .ok (.aastore, 1) := by decide +kernel
theorem dX5_post_78 : decode cX5_post 78 = .ok (.iload 4, 2) := by decide +kernel
theorem dX5_post_80 : decode cX5_post 80 = .ok (.ireturn, 1) := by decide +kernel
theorem dX5_over_0 : decode cX5_over 0 = .ok (.aload_n 0, 1) := by decide +kernel
theorem dX5_over_1 : decode cX5_over 1 = .ok (.iload_n 1, 1) := by decide +kernel
theorem dX5_over_2 : decode cX5_over 2 = .ok (.invokevirtual 73, 3) := by decide +kernel
theorem dX5_over_5 : decode cX5_over 5 = .ok (.iload_n 2, 1) := by decide +kernel
theorem dX5_over_6 : decode cX5_over 6 = .ok (.invokestatic 77, 3) := by decide +kernel
theorem dX5_over_9 : decode cX5_over 9 = .ok (.aload_n 0, 1) := by decide +kernel
theorem dX5_over_10 : decode cX5_over 10 = .ok (.getfield 12, 3) := by decide +kernel
theorem dX5_over_13 : decode cX5_over 13 = .ok (.iload_n 1, 1) := by decide +kernel
theorem dX5_over_14 : decode cX5_over 14 = .ok (.iload_n 2, 1) := by decide +kernel
theorem dX5_over_15 : decode cX5_over 15 = .ok (.invokevirtual 80, 3) := by decide +kernel
theorem dX5_over_18 : decode cX5_over 18 = .ok (.ireturn, 1) := by decide +kernel
theorem dX5_dead_0 : decode cX5_dead 0 = .ok (.aload_n 0, 1) := by decide +kernel
theorem dX5_dead_1 : decode cX5_dead 1 = .ok (.iload_n 1, 1) := by decide +kernel
theorem dX5_dead_2 : decode cX5_dead 2 = .ok (.invokevirtual 73, 3) := by decide +kernel
theorem dX5_dead_5 : decode cX5_dead 5 = .ok (.aload_n 0, 1) := by decide +kernel
theorem dX5_dead_6 : decode cX5_dead 6 = .ok (.getfield 12, 3) := by decide +kernel
theorem dX5_dead_9 : decode cX5_dead 9 = .ok (.iload_n 1, 1) := by decide +kernel
theorem dX5_dead_10 : decode cX5_dead 10 = .ok (.iload_n 2, 1) := by decide +kernel
theorem dX5_dead_11 : decode cX5_dead 11 = .ok (.invokevirtual 84, 3) := by decide +kernel
theorem dX5_dead_14 : decode cX5_dead 14 = .ok (.istore_n 3, 1) := by decide +kernel
theorem dX5_dead_15 : decode cX5_dead 15 = .ok (.iload_n 3, 1) := by decide +kernel
theorem dX5_dead_16 : decode cX5_dead 16 = .ok (.ifCond .eq 15, 3) := by decide +kernel
theorem dX5_dead_19 : decode cX5_dead 19 = .ok (.iload_n 2, 1) := by decide +kernel
theorem dX5_dead_20 : decode cX5_dead 20 = .ok (.ifCond .eq 11, 3) := by decide +kernel
theorem dX5_dead_23 : decode cX5_dead 23 = .ok (.aload_n 0, 1) := by decide +kernel
theorem dX5_dead_24 : decode cX5_dead 24 = .ok (.getfield 36, 3) := by decide +kernel
theorem dX5_dead_27 : decode cX5_dead 27 = .ok (.iload_n 1, 1) := by decide +kernel
theorem dX5_dead_28 : decode cX5_dead 28 = .ok (.invokevirtual 88, 3) := by decide +kernel
theorem dX5_dead_31 : decode cX5_dead 31 = .ok (.iload_n 3, 1) := by decide +kernel
theorem dX5_dead_32 : decode cX5_dead 32 = .ok (.ireturn, 1) := by decide +kernel
theorem dX5_link_0 : decode cX5_link 0 = .ok (.aload_n 0, 1) := by decide +kernel
theorem dX5_link_1 : decode cX5_link 1 = .ok (.iload_n 1, 1) := by decide +kernel
theorem dX5_link_2 : decode cX5_link 2 = .ok (.invokevirtual 73, 3) := by decide +kernel
theorem dX5_link_5 : decode cX5_link 5 = .ok (.aload_n 0, 1) := by decide +kernel
theorem dX5_link_6 : decode cX5_link 6 = .ok (.iload_n 2, 1) := by decide +kernel
theorem dX5_link_7 : decode cX5_link 7 = .ok (.invokevirtual 73, 3) := by decide +kernel
theorem dX5_link_10 : decode cX5_link 10 = .ok (.iload_n 3, 1) := by decide +kernel
theorem dX5_link_11 : decode cX5_link 11 = .ok (.invokestatic 77, 3) := by decide +kernel
theorem dX5_link_14 : decode cX5_link 14 = .ok (.aload_n 0, 1) := by decide +kernel
theorem dX5_link_15 : decode cX5_link 15 = .ok (.getfield 12, 3) := by decide +kernel
theorem dX5_link_18 : decode cX5_link 18 = .ok (.iload_n 1, 1) := by decide +kernel
theorem dX5_link_19 : decode cX5_link 19 = .ok (.iload_n 2, 1) := by decide +kernel
theorem dX5_link_20 : decode cX5_link 20 = .ok (.iload_n 3, 1) := by decide +kernel
theorem dX5_link_21 : decode cX5_link 21 = .ok (.invokevirtual 91, 3) := by decide +kernel
theorem dX5_link_24 : decode cX5_link 24 = .ok (.ifCond .eq 15, 3) := by decide +kernel
theorem dX5_link_27 : decode cX5_link 27 = .ok (.aload_n 0, 1) := by decide +kernel
theorem dX5_link_28 : decode cX5_link 28 = .ok (.getfield 12, 3) := by decide +kernel
theorem dX5_link_31 : decode cX5_link 31 = .ok (.iload_n 1, 1) := by decide +kernel
theorem dX5_link_32 : decode cX5_link 32 = .ok (.iload_n 2, 1) := by decide +kernel
theorem dX5_link_33 : decode cX5_link 33 = .ok (.invokevirtual 95, 3) := by decide +kernel
theorem dX5_link_36 : decode cX5_link 36 = .ok (.goto 4, 3) := by decide +kernel
theorem dX5_link_39 : decode cX5_link 39 = .ok (.iconst 0, 1) := by decide +kernel
theorem dX5_link_40 : decode cX5_link 40 = .ok (.ireturn, 1) := by decide +kernel
theorem dX5_sees_0 : decode cX5_sees 0 = .ok (.aload_n 0, 1) := by decide +kernel
theorem dX5_sees_1 : decode cX5_sees 1 = .ok (.iload_n 1, 1) := by decide +kernel
theorem dX5_sees_2 : decode cX5_sees 2 = .ok (.invokevirtual 98, 3) := by decide +kernel
theorem dX5_sees_5 : decode cX5_sees 5 = .ok (.aload_n 0, 1) := by decide +kernel
theorem dX5_sees_6 : decode cX5_sees 6 = .ok (.iload_n 2, 1) := by decide +kernel
theorem dX5_sees_7 : decode cX5_sees 7 = .ok (.invokevirtual 73, 3) := by decide +kernel
theorem dX5_sees_10 : decode cX5_sees 10 = .ok (.iload_n 3, 1) := by decide +kernel
theorem dX5_sees_11 : decode cX5_sees 11 = .ok (.invokestatic 77, 3) := by decide +kernel
theorem dX5_sees_14 : decode cX5_sees 14 = .ok (.aload_n 0, 1) := by decide +kernel
theorem dX5_sees_15 : decode cX5_sees 15 = .ok (.getfield 12, 3) := by decide +kernel
theorem dX5_sees_18 : decode cX5_sees 18 = .ok (.iload_n 1, 1) := by decide +kernel
theorem dX5_sees_19 : decode cX5_sees 19 = .ok (.invokestatic 101, 3) := by decide +kernel
theorem dX5_sees_22 : decode cX5_sees 22 = .ok (.iload_n 2, 1) := by decide +kernel
theorem dX5_sees_23 : decode cX5_sees 23 = .ok (.iload_n 3, 1) := by decide +kernel
theorem dX5_sees_24 : decode cX5_sees 24 = .ok (.invokevirtual 91, 3) := by decide +kernel
theorem dX5_sees_27 : decode cX5_sees 27 = .ok (.ireturn, 1) := by decide +kernel
theorem dX5_earliest_0 : decode cX5_earliest 0 = .ok (.aload_n 0, 1) := by decide +kernel
theorem dX5_earliest_1 : decode cX5_earliest 1 = .ok (.iload_n 1, 1) := by decide +kernel
theorem dX5_earliest_2 : decode cX5_earliest 2 = .ok (.invokevirtual 98, 3) := by decide +kernel
theorem dX5_earliest_5 : decode cX5_earliest 5 = .ok (.aload_n 0, 1) := by decide +kernel
theorem dX5_earliest_6 : decode cX5_earliest 6 = .ok (.iload_n 2, 1) := by decide +kernel
theorem dX5_earliest_7 : decode cX5_earliest 7 = .ok (.invokevirtual 98, 3) := by decide +kernel
theorem dX5_earliest_10 : decode cX5_earliest 10 = .ok (.iload_n 3, 1) := by decide +kernel
theorem dX5_earliest_11 : decode cX5_earliest 11 = .ok (.invokestatic 77, 3) := by decide +kernel
theorem dX5_earliest_14 : decode cX5_earliest 14 = .ok (.iload_n 1, 1) := by decide +kernel
theorem dX5_earliest_15 : decode cX5_earliest 15 = .ok (.iload_n 2, 1) := by decide +kernel
theorem dX5_earliest_16 : decode cX5_earliest 16 = .ok (.if_icmp .ne 5, 3) := by decide +kernel
theorem dX5_earliest_19 : decode cX5_earliest 19 = .ok (.iload_n 3, 1) := by decide +kernel
theorem dX5_earliest_20 : decode cX5_earliest 20 = .ok (.ireturn, 1) := by decide +kernel
theorem dX5_earliest_21 : decode cX5_earliest 21 = .ok (.aload_n 0, 1) := by decide +kernel
theorem dX5_earliest_22 : decode cX5_earliest 22 = .ok (.getfield 18, 3) := by decide +kernel
theorem dX5_earliest_25 : decode cX5_earliest 25 = .ok (.iload_n 2, 1) := by decide +kernel
theorem dX5_earliest_26 : decode cX5_earliest 26 = .ok (.aaload, 1) := by decide +kernel
theorem dX5_earliest_27 : decode cX5_earliest 27 = .ok (.invokevirtual 105, 3) := by decide +kernel
theorem dX5_earliest_30 : decode cX5_earliest 30 = .ok (.aload_n 0, 1) := by decide +kernel
theorem dX5_earliest_31 : decode cX5_earliest 31 = .ok (.getfield 18, 3) := by decide +kernel
theorem dX5_earliest_34 : decode cX5_earliest 34 = .ok (.iload_n 2, 1) := by decide +kernel
theorem dX5_earliest_35 : decode cX5_earliest 35 = .ok (.aaload, 1) := by decide +kernel
theorem dX5_earliest_36 : decode cX5_earliest 36 = .ok (.iload_n 1, 1) := by decide +kernel
theorem dX5_earliest_37 : decode cX5_earliest 37 = .ok (.invokestatic 101, 3) := by decide +kernel
theorem dX5_earliest_40 : decode cX5_earliest 40 = .ok (.iload_n 3, 1) := by decide +kernel
theorem dX5_earliest_41 : decode cX5_earliest 41 = .ok (.invokevirtual 108, 3) := by decide +kernel
theorem dX5_earliest_44 : decode cX5_earliest 44 = .ok (.istore 4, 2) := by decide +kernel
theorem dX5_earliest_46 : decode cX5_earliest 46 = .ok (.iload 4, 2) := by decide +kernel
theorem dX5_earliest_48 : decode cX5_earliest 48 = .ok (.iconst (-1), 1) := by decide +kernel
theorem dX5_earliest_49 : decode cX5_earliest 49 = .ok (.if_icmp .ne 7, 3) := by decide +kernel
theorem dX5_earliest_52 : decode cX5_earliest 52 = .ok (.iconst (-1), 1) := by decide +kernel
theorem dX5_earliest_53 : decode cX5_earliest 53 = .ok (.goto 7, 3) := by decide +kernel
theorem dX5_earliest_56 : decode cX5_earliest 56 = .ok (.iload_n 3, 1) := by decide +kernel
theorem dX5_earliest_57 : decode cX5_earliest 57 = .ok (.iload 4, 2) := by decide +kernel
theorem dX5_earliest_59 : decode cX5_earliest 59 = .ok (.iadd, 1) := by decide +kernel
theorem dX5_earliest_60 : decode cX5_earliest 60 = .ok (.ireturn, 1) := by decide +kernel
theorem dX5_late_0 : decode cX5_late 0 = .ok (.aload_n 0, 1) := by decide +kernel
theorem dX5_late_1 : decode cX5_late 1 = .ok (.iload_n 1, 1) := by decide +kernel
theorem dX5_late_2 : decode cX5_late 2 = .ok (.invokevirtual 98, 3) := by decide +kernel
theorem dX5_late_5 : decode cX5_late 5 = .ok (.aload_n 0, 1) := by decide +kernel
theorem dX5_late_6 : decode cX5_late 6 = .ok (.iload_n 2, 1) := by decide +kernel
theorem dX5_late_7 : decode cX5_late 7 = .ok (.invokevirtual 98, 3) := by decide +kernel
theorem dX5_late_10 : decode cX5_late 10 = .ok (.iload_n 1, 1) := by decide +kernel
theorem dX5_late_11 : decode cX5_late 11 = .ok (.iload_n 2, 1) := by decide +kernel
theorem dX5_late_12 : decode cX5_late 12 = .ok (.if_icmp .ne 5, 3) := by decide +kernel
theorem dX5_late_15 : decode cX5_late 15 = .ok (.iconst 0, 1) := by decide +kernel
theorem dX5_late_16 : decode cX5_late 16 = .ok (.ireturn, 1) := by decide +kernel
theorem dX5_late_17 : decode cX5_late 17 = .ok (.aload_n 0, 1) := by decide +kernel
theorem dX5_late_18 : decode cX5_late 18 = .ok (.getfield 18, 3) := by decide +kernel
theorem dX5_late_21 : decode cX5_late 21 = .ok (.iload_n 2, 1) := by decide +kernel
theorem dX5_late_22 : decode cX5_late 22 = .ok (.aaload, 1) := by decide +kernel
theorem dX5_late_23 : decode cX5_late 23 = .ok (.invokevirtual 105, 3) := by decide +kernel
theorem dX5_late_26 : decode cX5_late 26 = .ok (.aload_n 0, 1) := by decide +kernel
theorem dX5_late_27 : decode cX5_late 27 = .ok (.getfield 18, 3) := by decide +kernel
theorem dX5_late_30 : decode cX5_late 30 = .ok (.iload_n 2, 1) := by decide +kernel
theorem dX5_late_31 : decode cX5_late 31 = .ok (.aaload, 1) := by decide +kernel
theorem dX5_late_32 : decode cX5_late 32 = .ok (.iload_n 1, 1) := by decide +kernel
theorem dX5_late_33 : decode cX5_late 33 = .ok (.invokestatic 101, 3) := by decide +kernel
theorem dX5_late_36 : decode cX5_late 36 = .ok (.iload_n 3, 1) := by decide +kernel
theorem dX5_late_37 : decode cX5_late 37 = .ok (.invokevirtual 111, 3) := by decide +kernel
theorem dX5_late_40 : decode cX5_late 40 = .ok (.ireturn, 1) := by decide +kernel
theorem dX5_meets_0 : decode cX5_meets 0 = .ok (.aload_n 0, 1) := by decide +kernel
theorem dX5_meets_1 : decode cX5_meets 1 = .ok (.iload_n 1, 1) := by decide +kernel
theorem dX5_meets_2 : decode cX5_meets 2 = .ok (.invokevirtual 98, 3) := by decide +kernel
theorem dX5_meets_5 : decode cX5_meets 5 = .ok (.iconst 0, 1) := by decide +kernel
theorem dX5_meets_6 : decode cX5_meets 6 = .ok (.istore_n 2, 1) := by decide +kernel
theorem dX5_meets_7 : decode cX5_meets 7 = .ok (.iconst 0, 1) := by decide +kernel
theorem dX5_meets_8 : decode cX5_meets 8 = .ok (.istore_n 3, 1) := by decide +kernel
theorem dX5_meets_9 : decode cX5_meets 9 = .ok (.iload_n 3, 1) := by decide +kernel
theorem dX5_meets_10 : decode cX5_meets 10 = .ok (.aload_n 0, 1) := by decide +kernel
theorem dX5_meets_11 : decode cX5_meets 11 = .ok (.getfield 12, 3) := by decide +kernel
theorem dX5_meets_14 : decode cX5_meets 14 = .ok (.getfield 115, 3) := by decide +kernel
theorem dX5_meets_17 : decode cX5_meets 17 = .ok (.if_icmp .ge 24, 3) := by decide +kernel
theorem dX5_meets_20 : decode cX5_meets 20 = .ok (.iload_n 2, 1) := by decide +kernel
theorem dX5_meets_21 : decode cX5_meets 21 = .ok (.aload_n 0, 1) := by decide +kernel
theorem dX5_meets_22 : decode cX5_meets 22 = .ok (.getfield 12, 3) := by decide +kernel
theorem dX5_meets_25 : decode cX5_meets 25 = .ok (.iload_n 1, 1) := by decide +kernel
theorem dX5_meets_26 : decode cX5_meets 26 = .ok (.invokestatic 101, 3) := by decide +kernel
theorem dX5_meets_29 : decode cX5_meets 29 = .ok (.iload_n 3, 1) := by decide +kernel
theorem dX5_meets_30 : decode cX5_meets 30 = .ok (.invokevirtual 118, 3) := by decide +kernel
theorem dX5_meets_33 : decode cX5_meets 33 = .ok (.ior, 1) := by decide +kernel
theorem dX5_meets_34 : decode cX5_meets 34 = .ok (.istore_n 2, 1) := by decide +kernel
theorem dX5_meets_35 : decode cX5_meets 35 = .ok (.iinc 3 1, 3) := by decide +kernel
theorem dX5_meets_38 : decode cX5_meets 38 = .ok (.goto (-29), 3) := by decide +kernel
theorem dX5_meets_41 : decode cX5_meets 41 = .ok (.iload_n 2, 1) := by decide +kernel
theorem dX5_meets_42 : decode cX5_meets 42 = .ok (.invokestatic 121, 3) := by decide +kernel
theorem dX5_meets_45 : decode cX5_meets 45 = .ok (.ireturn, 1) := by decide +kernel
theorem dX5_part_0 : decode cX5_part 0 = .ok (.aload_n 0, 1) := by decide +kernel
theorem dX5_part_1 : decode cX5_part 1 = .ok (.iload_n 1, 1) := by decide +kernel
theorem dX5_part_2 : decode cX5_part 2 = .ok (.invokevirtual 98, 3) := by decide +kernel
theorem dX5_part_5 : decode cX5_part 5 = .ok (.aload_n 0, 1) := by decide +kernel
theorem dX5_part_6 : decode cX5_part 6 = .ok (.iload_n 2, 1) := by decide +kernel
theorem dX5_part_7 : decode cX5_part 7 = .ok (.invokevirtual 98, 3) := by decide +kernel
theorem dX5_part_10 : decode cX5_part 10 = .ok (.iload_n 3, 1) := by decide +kernel
theorem dX5_part_11 : decode cX5_part 11 = .ok (.invokestatic 77, 3) := by decide +kernel
theorem dX5_part_14 : decode cX5_part 14 = .ok (.iload_n 1, 1) := by decide +kernel
theorem dX5_part_15 : decode cX5_part 15 = .ok (.iload_n 2, 1) := by decide +kernel
theorem dX5_part_16 : decode cX5_part 16 = .ok (.if_icmp .ne 7, 3) := by decide +kernel
theorem dX5_part_19 : decode cX5_part 19 = .ok (.iconst (-1), 1) := by decide +kernel
theorem dX5_part_20 : decode cX5_part 20 = .ok (.goto 19, 3) := by decide +kernel
theorem dX5_part_23 : decode cX5_part 23 = .ok (.aload_n 0, 1) := by decide +kernel
theorem dX5_part_24 : decode cX5_part 24 = .ok (.getfield 27, 3) := by decide +kernel
theorem dX5_part_27 : decode cX5_part 27 = .ok (.iload_n 1, 1) := by decide +kernel
theorem dX5_part_28 : decode cX5_part 28 = .ok (.invokestatic 101, 3) := by decide +kernel
theorem dX5_part_31 : decode cX5_part 31 = .ok (.iload_n 2, 1) := by decide +kernel
theorem dX5_part_32 : decode cX5_part 32 = .ok (.invokestatic 101, 3) := by decide +kernel
theorem dX5_part_35 : decode cX5_part 35 = .ok (.iload_n 3, 1) := by decide +kernel
theorem dX5_part_36 : decode cX5_part 36 = .ok (.invokevirtual 126, 3) := by decide +kernel
theorem dX5_part_39 : decode cX5_part 39 = .ok (.ireturn, 1) := by decide +kernel
theorem dX5_send_0 : decode cX5_send 0 = .ok (.aload_n 0, 1) := by decide +kernel
theorem dX5_send_1 : decode cX5_send 1 = .ok (.iload_n 1, 1) := by decide +kernel
theorem dX5_send_2 : decode cX5_send 2 = .ok (.invokevirtual 98, 3) := by decide +kernel
theorem dX5_send_5 : decode cX5_send 5 = .ok (.aload_n 0, 1) := by decide +kernel
theorem dX5_send_6 : decode cX5_send 6 = .ok (.iload_n 2, 1) := by decide +kernel
theorem dX5_send_7 : decode cX5_send 7 = .ok (.invokevirtual 98, 3) := by decide +kernel
theorem dX5_send_10 : decode cX5_send 10 = .ok (.iload_n 1, 1) := by decide +kernel
theorem dX5_send_11 : decode cX5_send 11 = .ok (.iload_n 2, 1) := by decide +kernel
theorem dX5_send_12 : decode cX5_send 12 = .ok (.if_icmp .ne 13, 3) := by decide +kernel
theorem dX5_send_15 : decode cX5_send 15 = .ok (.new 129, 3) := by decide +kernel
theorem dX5_send_18 : decode cX5_send 18 = .ok (.dup, 1) := by decide +kernel
theorem dX5_send_19 : decode cX5_send 19 = .ok (.ldc 131, 2) := by decide +kernel
theorem dX5_send_21 : decode cX5_send 21 = .ok (.invokespecial 133, 3) := by decide +kernel
theorem dX5_send_24 : decode cX5_send 24 = .ok (.athrow, 1) := by decide +kernel
theorem dX5_send_25 : decode cX5_send 25 = .ok (.aload_n 0, 1) := by decide +kernel
theorem dX5_send_26 : decode cX5_send 26 = .ok (.getfield 36, 3) := by decide +kernel
theorem dX5_send_29 : decode cX5_send 29 = .ok (.getfield 134, 3) := by decide +kernel
theorem dX5_send_32 : decode cX5_send 32 = .ok (.bipush 60, 2) := by decide +kernel
theorem dX5_send_34 : decode cX5_send 34 = .ok (.if_icmp .lt 13, 3) := by decide +kernel
theorem dX5_send_37 : decode cX5_send 37 = .ok (.new 51, 3) := by decide +kernel
theorem dX5_send_40 : decode cX5_send 40 = .ok (.dup, 1) := by decide +kernel
theorem dX5_send_41 : decode cX5_send 41 = .ok (.ldc 137, 2) := by decide +kernel
theorem dX5_send_43 : decode cX5_send 43 = .ok (.invokespecial 55, 3) := by decide +kernel
theorem dX5_send_46 : decode cX5_send 46 = .ok (.athrow, 1) := by decide +kernel
theorem dX5_send_47 : decode cX5_send 47 = .ok (.aload_n 0, 1) := by decide +kernel
theorem dX5_send_48 : decode cX5_send 48 = .ok (.getfield 36, 3) := by decide +kernel
theorem dX5_send_51 : decode cX5_send 51 = .ok (.iload_n 1, 1) := by decide +kernel
theorem dX5_send_52 : decode cX5_send 52 = .ok (.iload_n 2, 1) := by decide +kernel
theorem dX5_send_53 : decode cX5_send 53 = .ok (.invokevirtual 139, 3) := by decide +kernel
theorem dX5_send_56 : decode cX5_send 56 = .ok (.ireturn, 1) := by decide +kernel
theorem dX5_steps_0 : decode cX5_steps 0 = .ok (.iload_n 1, 1) := by decide +kernel
theorem dX5_steps_1 : decode cX5_steps 1 = .ok (.iconst 0, 1) := by decide +kernel
theorem dX5_steps_2 : decode cX5_steps 2 = .ok (.bipush 100, 2) := by decide +kernel
theorem dX5_steps_4 : decode cX5_steps 4 = .ok (.invokestatic 43, 3) := by decide +kernel
theorem dX5_steps_7 : decode cX5_steps 7 = .ok (.aload_n 0, 1) := by decide +kernel
theorem dX5_steps_8 : decode cX5_steps 8 = .ok (.getfield 36, 3) := by decide +kernel
theorem dX5_steps_11 : decode cX5_steps 11 = .ok (.iload_n 1, 1) := by decide +kernel
theorem dX5_steps_12 : decode cX5_steps 12 = .ok (.invokevirtual 142, 3) := by decide +kernel
theorem dX5_steps_15 : decode cX5_steps 15 = .ok (.aload_n 0, 1) := by decide +kernel
theorem dX5_steps_16 : decode cX5_steps 16 = .ok (.getfield 36, 3) := by decide +kernel
theorem dX5_steps_19 : decode cX5_steps 19 = .ok (.getfield 145, 3) := by decide +kernel
theorem dX5_steps_22 : decode cX5_steps 22 = .ok (.ireturn, 1) := by decide +kernel
theorem dX5_look_0 : decode cX5_look 0 = .ok (.iload_n 1, 1) := by decide +kernel
theorem dX5_look_1 : decode cX5_look 1 = .ok (.ifCond .lt 14, 3) := by decide +kernel
theorem dX5_look_4 : decode cX5_look 4 = .ok (.iload_n 1, 1) := by decide +kernel
theorem dX5_look_5 : decode cX5_look 5 = .ok (.aload_n 0, 1) := by decide +kernel
theorem dX5_look_6 : decode cX5_look 6 = .ok (.getfield 36, 3) := by decide +kernel
theorem dX5_look_9 : decode cX5_look 9 = .ok (.getfield 134, 3) := by decide +kernel
theorem dX5_look_12 : decode cX5_look 12 = .ok (.if_icmp .lt 13, 3) := by decide +kernel
theorem dX5_look_15 : decode cX5_look 15 = .ok (.new 148, 3) := by decide +kernel
theorem dX5_look_18 : decode cX5_look 18 = .ok (.dup, 1) := by decide +kernel
theorem dX5_look_19 : decode cX5_look 19 = .ok (.ldc 150, 2) := by decide +kernel
theorem dX5_look_21 : decode cX5_look 21 = .ok (.invokespecial 152, 3) := by decide +kernel
theorem dX5_look_24 : decode cX5_look 24 = .ok (.athrow, 1) := by decide +kernel
theorem dX5_look_25 : decode cX5_look 25 = .ok (.aload_n 0, 1) := by decide +kernel
theorem dX5_look_26 : decode cX5_look 26 = .ok (.getfield 36, 3) := by decide +kernel
theorem dX5_look_29 : decode cX5_look 29 = .ok (.getfield 153, 3) := by decide +kernel
theorem dX5_look_32 : decode cX5_look 32 = .ok (.iload_n 1, 1) := by decide +kernel
theorem dX5_look_33 : decode cX5_look 33 = .ok (.aaload, 1) := by decide +kernel
theorem dX5_look_34 : decode cX5_look 34 = .ok (.astore_n 3, 1) := by decide +kernel
theorem dX5_look_35 : decode cX5_look 35 = .ok (.iload_n 2, 1) := by decide +kernel
theorem dX5_look_36 : decode cX5_look 36 = .ok (.tableswitch 70 0 5 #[40, 45, 50, 55, 60, 65], 40) := by decide +kernel
theorem dX5_look_76 : decode cX5_look 76 = .ok (.aload_n 3, 1) := by decide +kernel
theorem dX5_look_77 : decode cX5_look 77 = .ok (.getfield 157, 3) := by decide +kernel
theorem dX5_look_80 : decode cX5_look 80 = .ok (.ireturn, 1) := by decide +kernel
theorem dX5_look_81 : decode cX5_look 81 = .ok (.aload_n 3, 1) := by decide +kernel
theorem dX5_look_82 : decode cX5_look 82 = .ok (.invokevirtual 162, 3) := by decide +kernel
theorem dX5_look_85 : decode cX5_look 85 = .ok (.ireturn, 1) := by decide +kernel
theorem dX5_look_86 : decode cX5_look 86 = .ok (.aload_n 3, 1) := by decide +kernel
theorem dX5_look_87 : decode cX5_look 87 = .ok (.getfield 166, 3) := by decide +kernel
theorem dX5_look_90 : decode cX5_look 90 = .ok (.ireturn, 1) := by decide +kernel
theorem dX5_look_91 : decode cX5_look 91 = .ok (.aload_n 3, 1) := by decide +kernel
theorem dX5_look_92 : decode cX5_look 92 = .ok (.getfield 169, 3) := by decide +kernel
theorem dX5_look_95 : decode cX5_look 95 = .ok (.ireturn, 1) := by decide +kernel
theorem dX5_look_96 : decode cX5_look 96 = .ok (.aload_n 3, 1) := by decide +kernel
theorem dX5_look_97 : decode cX5_look 97 = .ok (.getfield 172, 3) := by decide +kernel
theorem dX5_look_100 : decode cX5_look 100 = .ok (.ireturn, 1) := by decide +kernel
theorem dX5_look_101 : decode cX5_look 101 = .ok (.aload_n 3, 1) := by decide +kernel
theorem dX5_look_102 : decode cX5_look 102 = .ok (.getfield 175, 3) := by decide +kernel
theorem dX5_look_105 : decode cX5_look 105 = .ok (.ireturn, 1) := by decide +kernel
theorem dX5_look_106 : decode cX5_look 106 = .ok (.new 178, 3) := by decide +kernel
theorem dX5_look_109 : decode cX5_look 109 = .ok (.dup, 1) := by decide +kernel
theorem dX5_look_110 : decode cX5_look 110 = .ok (.ldc 180, 2) := by decide +kernel
theorem dX5_look_112 : decode cX5_look 112 = .ok (.invokespecial 182, 3) := by decide +kernel
theorem dX5_look_115 : decode cX5_look 115 = .ok (.athrow, 1) := by decide +kernel
theorem dX5_count_0 : decode cX5_count 0 = .ok (.iload_n 1, 1) := by decide +kernel
theorem dX5_count_1 : decode cX5_count 1 = .ok (.tableswitch 132 0 8 #[51, 59, 67, 75, 83, 91, 99, 108, 117], 51) := by decide +kernel
theorem dX5_count_52 : decode cX5_count 52 = .ok (.aload_n 0, 1) := by decide +kernel
theorem dX5_count_53 : decode cX5_count 53 = .ok (.getfield 36, 3) := by decide +kernel
theorem dX5_count_56 : decode cX5_count 56 = .ok (.getfield 145, 3) := by decide +kernel
theorem dX5_count_59 : decode cX5_count 59 = .ok (.ireturn, 1) := by decide +kernel
theorem dX5_count_60 : decode cX5_count 60 = .ok (.aload_n 0, 1) := by decide +kernel
theorem dX5_count_61 : decode cX5_count 61 = .ok (.getfield 12, 3) := by decide +kernel
theorem dX5_count_64 : decode cX5_count 64 = .ok (.getfield 47, 3) := by decide +kernel
theorem dX5_count_67 : decode cX5_count 67 = .ok (.ireturn, 1) := by decide +kernel
theorem dX5_count_68 : decode cX5_count 68 = .ok (.aload_n 0, 1) := by decide +kernel
theorem dX5_count_69 : decode cX5_count 69 = .ok (.getfield 12, 3) := by decide +kernel
theorem dX5_count_72 : decode cX5_count 72 = .ok (.getfield 115, 3) := by decide +kernel
theorem dX5_count_75 : decode cX5_count 75 = .ok (.ireturn, 1) := by decide +kernel
theorem dX5_count_76 : decode cX5_count 76 = .ok (.aload_n 0, 1) := by decide +kernel
theorem dX5_count_77 : decode cX5_count 77 = .ok (.getfield 12, 3) := by decide +kernel
theorem dX5_count_80 : decode cX5_count 80 = .ok (.invokevirtual 183, 3) := by decide +kernel
theorem dX5_count_83 : decode cX5_count 83 = .ok (.ireturn, 1) := by decide +kernel
theorem dX5_count_84 : decode cX5_count 84 = .ok (.aload_n 0, 1) := by decide +kernel
theorem dX5_count_85 : decode cX5_count 85 = .ok (.getfield 12, 3) := by decide +kernel
theorem dX5_count_88 : decode cX5_count 88 = .ok (.getfield 62, 3) := by decide +kernel
theorem dX5_count_91 : decode cX5_count 91 = .ok (.ireturn, 1) := by decide +kernel
theorem dX5_count_92 : decode cX5_count 92 = .ok (.aload_n 0, 1) := by decide +kernel
theorem dX5_count_93 : decode cX5_count 93 = .ok (.getfield 36, 3) := by decide +kernel
theorem dX5_count_96 : decode cX5_count 96 = .ok (.getfield 134, 3) := by decide +kernel
theorem dX5_count_99 : decode cX5_count 99 = .ok (.ireturn, 1) := by decide +kernel
theorem dX5_count_100 : decode cX5_count 100 = .ok (.aload_n 0, 1) := by decide +kernel
theorem dX5_count_101 : decode cX5_count 101 = .ok (.getfield 36, 3) := by decide +kernel
theorem dX5_count_104 : decode cX5_count 104 = .ok (.iconst 4, 1) := by decide +kernel
theorem dX5_count_105 : decode cX5_count 105 = .ok (.invokevirtual 186, 3) := by decide +kernel
theorem dX5_count_108 : decode cX5_count 108 = .ok (.ireturn, 1) := by decide +kernel
theorem dX5_count_109 : decode cX5_count 109 = .ok (.aload_n 0, 1) := by decide +kernel
theorem dX5_count_110 : decode cX5_count 110 = .ok (.getfield 36, 3) := by decide +kernel
theorem dX5_count_113 : decode cX5_count 113 = .ok (.iconst 5, 1) := by decide +kernel
theorem dX5_count_114 : decode cX5_count 114 = .ok (.invokevirtual 186, 3) := by decide +kernel
theorem dX5_count_117 : decode cX5_count 117 = .ok (.ireturn, 1) := by decide +kernel
theorem dX5_count_118 : decode cX5_count 118 = .ok (.aload_n 0, 1) := by decide +kernel
theorem dX5_count_119 : decode cX5_count 119 = .ok (.getfield 12, 3) := by decide +kernel
theorem dX5_count_122 : decode cX5_count 122 = .ok (.aload_n 0, 1) := by decide +kernel
theorem dX5_count_123 : decode cX5_count 123 = .ok (.getfield 36, 3) := by decide +kernel
theorem dX5_count_126 : decode cX5_count 126 = .ok (.getfield 145, 3) := by decide +kernel
theorem dX5_count_129 : decode cX5_count 129 = .ok (.invokevirtual 189, 3) := by decide +kernel
theorem dX5_count_132 : decode cX5_count 132 = .ok (.ireturn, 1) := by decide +kernel
theorem dX5_count_133 : decode cX5_count 133 = .ok (.iconst (-1), 1) := by decide +kernel
theorem dX5_count_134 : decode cX5_count 134 = .ok (.ireturn, 1) := by decide +kernel
theorem dX5_needNoLetter_0 : decode cX5_needNoLetter 0 = .ok (.aload_n 0, 1) := by decide +kernel
theorem dX5_needNoLetter_1 : decode cX5_needNoLetter 1 = .ok (.getfield 36, 3) := by decide +kernel
theorem dX5_needNoLetter_4 : decode cX5_needNoLetter 4 = .ok (.getfield 134, 3) := by decide +kernel
theorem dX5_needNoLetter_7 : decode cX5_needNoLetter 7 = .ok (.ifCond .le 13, 3) := by decide +kernel
theorem dX5_needNoLetter_10 : decode cX5_needNoLetter 10 = .ok (.new 192, 3) := by decide +kernel
theorem dX5_needNoLetter_13 : decode cX5_needNoLetter 13 = .ok (.dup, 1) := by decide +kernel
theorem dX5_needNoLetter_14 : decode cX5_needNoLetter 14 = .ok (.ldc 194, 2) := by decide +kernel
theorem dX5_needNoLetter_16 : decode cX5_needNoLetter 16 = .ok (.invokespecial 196, 3) := by decide +kernel
theorem dX5_needNoLetter_19 : decode cX5_needNoLetter 19 = .ok (.athrow, 1) := by decide +kernel
theorem dX5_needNoLetter_20 : decode cX5_needNoLetter 20 = .ok (.return_, 1) := by decide +kernel
theorem dX5_needRelay_0 : decode cX5_needRelay 0 = .ok (.iload_n 1, 1) := by decide +kernel
theorem dX5_needRelay_1 : decode cX5_needRelay 1 = .ok (.ifCond .lt 14, 3) := by decide +kernel
theorem dX5_needRelay_4 : decode cX5_needRelay 4 = .ok (.iload_n 1, 1) := by decide +kernel
theorem dX5_needRelay_5 : decode cX5_needRelay 5 = .ok (.aload_n 0, 1) := by decide +kernel
theorem dX5_needRelay_6 : decode cX5_needRelay 6 = .ok (.getfield 12, 3) := by decide +kernel
theorem dX5_needRelay_9 : decode cX5_needRelay 9 = .ok (.getfield 115, 3) := by decide +kernel
theorem dX5_needRelay_12 : decode cX5_needRelay 12 = .ok (.if_icmp .lt 13, 3) := by decide +kernel
theorem dX5_needRelay_15 : decode cX5_needRelay 15 = .ok (.new 148, 3) := by decide +kernel
theorem dX5_needRelay_18 : decode cX5_needRelay 18 = .ok (.dup, 1) := by decide +kernel
theorem dX5_needRelay_19 : decode cX5_needRelay 19 = .ok (.ldc 197, 2) := by decide +kernel
theorem dX5_needRelay_21 : decode cX5_needRelay 21 = .ok (.invokespecial 152, 3) := by decide +kernel
theorem dX5_needRelay_24 : decode cX5_needRelay 24 = .ok (.athrow, 1) := by decide +kernel
theorem dX5_needRelay_25 : decode cX5_needRelay 25 = .ok (.return_, 1) := by decide +kernel
theorem dX5_needPost_0 : decode cX5_needPost 0 = .ok (.iload_n 1, 1) := by decide +kernel
theorem dX5_needPost_1 : decode cX5_needPost 1 = .ok (.ifCond .lt 14, 3) := by decide +kernel
theorem dX5_needPost_4 : decode cX5_needPost 4 = .ok (.iload_n 1, 1) := by decide +kernel
theorem dX5_needPost_5 : decode cX5_needPost 5 = .ok (.aload_n 0, 1) := by decide +kernel
theorem dX5_needPost_6 : decode cX5_needPost 6 = .ok (.getfield 12, 3) := by decide +kernel
theorem dX5_needPost_9 : decode cX5_needPost 9 = .ok (.getfield 62, 3) := by decide +kernel
theorem dX5_needPost_12 : decode cX5_needPost 12 = .ok (.if_icmp .lt 13, 3) := by decide +kernel
theorem dX5_needPost_15 : decode cX5_needPost 15 = .ok (.new 148, 3) := by decide +kernel
theorem dX5_needPost_18 : decode cX5_needPost 18 = .ok (.dup, 1) := by decide +kernel
theorem dX5_needPost_19 : decode cX5_needPost 19 = .ok (.ldc 199, 2) := by decide +kernel
theorem dX5_needPost_21 : decode cX5_needPost 21 = .ok (.invokespecial 152, 3) := by decide +kernel
theorem dX5_needPost_24 : decode cX5_needPost 24 = .ok (.athrow, 1) := by decide +kernel
theorem dX5_needPost_25 : decode cX5_needPost 25 = .ok (.return_, 1) := by decide +kernel
theorem dX5_needTick_0 : decode cX5_needTick 0 = .ok (.iload_n 0, 1) := by decide +kernel
theorem dX5_needTick_1 : decode cX5_needTick 1 = .ok (.iconst 0, 1) := by decide +kernel
theorem dX5_needTick_2 : decode cX5_needTick 2 = .ok (.ldc 201, 2) := by decide +kernel
theorem dX5_needTick_4 : decode cX5_needTick 4 = .ok (.invokestatic 43, 3) := by decide +kernel
theorem dX5_needTick_7 : decode cX5_needTick 7 = .ok (.return_, 1) := by decide +kernel
theorem dX5_needBetween_0 : decode cX5_needBetween 0 = .ok (.iload_n 0, 1) := by decide +kernel
theorem dX5_needBetween_1 : decode cX5_needBetween 1 = .ok (.iload_n 1, 1) := by decide +kernel
theorem dX5_needBetween_2 : decode cX5_needBetween 2 = .ok (.if_icmp .lt 8, 3) := by decide +kernel
theorem dX5_needBetween_5 : decode cX5_needBetween 5 = .ok (.iload_n 0, 1) := by decide +kernel
theorem dX5_needBetween_6 : decode cX5_needBetween 6 = .ok (.iload_n 2, 1) := by decide +kernel
theorem dX5_needBetween_7 : decode cX5_needBetween 7 = .ok (.if_icmp .le 13, 3) := by decide +kernel
theorem dX5_needBetween_10 : decode cX5_needBetween 10 = .ok (.new 129, 3) := by decide +kernel
theorem dX5_needBetween_13 : decode cX5_needBetween 13 = .ok (.dup, 1) := by decide +kernel
theorem dX5_needBetween_14 : decode cX5_needBetween 14 = .ok (.ldc 202, 2) := by decide +kernel
theorem dX5_needBetween_16 : decode cX5_needBetween 16 = .ok (.invokespecial 133, 3) := by decide +kernel
theorem dX5_needBetween_19 : decode cX5_needBetween 19 = .ok (.athrow, 1) := by decide +kernel
theorem dX5_needBetween_20 : decode cX5_needBetween 20 = .ok (.return_, 1) := by decide +kernel
theorem dX5_nodeOf_0 : decode cX5_nodeOf 0 = .ok (.bipush 48, 2) := by decide +kernel
theorem dX5_nodeOf_2 : decode cX5_nodeOf 2 = .ok (.iload_n 0, 1) := by decide +kernel
theorem dX5_nodeOf_3 : decode cX5_nodeOf 3 = .ok (.iadd, 1) := by decide +kernel
theorem dX5_nodeOf_4 : decode cX5_nodeOf 4 = .ok (.ireturn, 1) := by decide +kernel
theorem dX5_isRelay_0 : decode cX5_isRelay 0 = .ok (.iload_n 0, 1) := by decide +kernel
theorem dX5_isRelay_1 : decode cX5_isRelay 1 = .ok (.bipush 48, 2) := by decide +kernel
theorem dX5_isRelay_3 : decode cX5_isRelay 3 = .ok (.if_icmp .ge 7, 3) := by decide +kernel
theorem dX5_isRelay_6 : decode cX5_isRelay 6 = .ok (.iconst 1, 1) := by decide +kernel
theorem dX5_isRelay_7 : decode cX5_isRelay 7 = .ok (.goto 4, 3) := by decide +kernel
theorem dX5_isRelay_10 : decode cX5_isRelay 10 = .ok (.iconst 0, 1) := by decide +kernel
theorem dX5_isRelay_11 : decode cX5_isRelay 11 = .ok (.ireturn, 1) := by decide +kernel
theorem dX5_bit_0 : decode cX5_bit 0 = .ok (.lconst 1, 1) := by decide +kernel
theorem dX5_bit_1 : decode cX5_bit 1 = .ok (.iload_n 0, 1) := by decide +kernel
theorem dX5_bit_2 : decode cX5_bit 2 = .ok (.lshl, 1) := by decide +kernel
theorem dX5_bit_3 : decode cX5_bit 3 = .ok (.lreturn, 1) := by decide +kernel
theorem dX5_ahead_0 : decode cX5_ahead 0 = .ok (.iload_n 0, 1) := by decide +kernel
theorem dX5_ahead_1 : decode cX5_ahead 1 = .ok (.iload_n 1, 1) := by decide +kernel
theorem dX5_ahead_2 : decode cX5_ahead 2 = .ok (.iushr, 1) := by decide +kernel
theorem dX5_ahead_3 : decode cX5_ahead 3 = .ok (.iload_n 0, 1) := by decide +kernel
theorem dX5_ahead_4 : decode cX5_ahead 4 = .ok (.bipush 32, 2) := by decide +kernel
theorem dX5_ahead_6 : decode cX5_ahead 6 = .ok (.iload_n 1, 1) := by decide +kernel
theorem dX5_ahead_7 : decode cX5_ahead 7 = .ok (.isub, 1) := by decide +kernel
theorem dX5_ahead_8 : decode cX5_ahead 8 = .ok (.ishl, 1) := by decide +kernel
theorem dX5_ahead_9 : decode cX5_ahead 9 = .ok (.ior, 1) := by decide +kernel
theorem dX5_ahead_10 : decode cX5_ahead 10 = .ok (.ireturn, 1) := by decide +kernel
theorem dJ6_bitCount_0f7a4_0 : decode cJ6_bitCount_0f7a4 0 = .ok (.iload_n 0, 1) := by decide +kernel
theorem dJ6_bitCount_0f7a4_1 : decode cJ6_bitCount_0f7a4 1 = .ok (.iload_n 0, 1) := by decide +kernel
theorem dJ6_bitCount_0f7a4_2 : decode cJ6_bitCount_0f7a4 2 = .ok (.iconst 1, 1) := by decide +kernel
theorem dJ6_bitCount_0f7a4_3 : decode cJ6_bitCount_0f7a4 3 = .ok (.iushr, 1) := by decide +kernel
theorem dJ6_bitCount_0f7a4_4 : decode cJ6_bitCount_0f7a4 4 = .ok (.ldc_w 265, 3) := by decide +kernel
theorem dJ6_bitCount_0f7a4_7 : decode cJ6_bitCount_0f7a4 7 = .ok (.iand, 1) := by decide +kernel
theorem dJ6_bitCount_0f7a4_8 : decode cJ6_bitCount_0f7a4 8 = .ok (.isub, 1) := by decide +kernel
theorem dJ6_bitCount_0f7a4_9 : decode cJ6_bitCount_0f7a4 9 = .ok (.istore_n 0, 1) := by decide +kernel
theorem dJ6_bitCount_0f7a4_10 : decode cJ6_bitCount_0f7a4 10 = .ok (.iload_n 0, 1) := by decide +kernel
theorem dJ6_bitCount_0f7a4_11 : decode cJ6_bitCount_0f7a4 11 = .ok (.ldc_w 266, 3) := by decide +kernel
theorem dJ6_bitCount_0f7a4_14 : decode cJ6_bitCount_0f7a4 14 = .ok (.iand, 1) := by decide +kernel
theorem dJ6_bitCount_0f7a4_15 : decode cJ6_bitCount_0f7a4 15 = .ok (.iload_n 0, 1) := by decide +kernel
theorem dJ6_bitCount_0f7a4_16 : decode cJ6_bitCount_0f7a4 16 = .ok (.iconst 2, 1) := by decide +kernel
theorem dJ6_bitCount_0f7a4_17 : decode cJ6_bitCount_0f7a4 17 = .ok (.iushr, 1) := by decide +kernel
theorem dJ6_bitCount_0f7a4_18 : decode cJ6_bitCount_0f7a4 18 = .ok (.ldc_w 266, 3) := by decide +kernel
theorem dJ6_bitCount_0f7a4_21 : decode cJ6_bitCount_0f7a4 21 = .ok (.iand, 1) := by decide +kernel
theorem dJ6_bitCount_0f7a4_22 : decode cJ6_bitCount_0f7a4 22 = .ok (.iadd, 1) := by decide +kernel
theorem dJ6_bitCount_0f7a4_23 : decode cJ6_bitCount_0f7a4 23 = .ok (.istore_n 0, 1) := by decide +kernel
theorem dJ6_bitCount_0f7a4_24 : decode cJ6_bitCount_0f7a4 24 = .ok (.iload_n 0, 1) := by decide +kernel
theorem dJ6_bitCount_0f7a4_25 : decode cJ6_bitCount_0f7a4 25 = .ok (.iload_n 0, 1) := by decide +kernel
theorem dJ6_bitCount_0f7a4_26 : decode cJ6_bitCount_0f7a4 26 = .ok (.iconst 4, 1) := by decide +kernel
theorem dJ6_bitCount_0f7a4_27 : decode cJ6_bitCount_0f7a4 27 = .ok (.iushr, 1) := by decide +kernel
theorem dJ6_bitCount_0f7a4_28 : decode cJ6_bitCount_0f7a4 28 = .ok (.iadd, 1) := by decide +kernel
theorem dJ6_bitCount_0f7a4_29 : decode cJ6_bitCount_0f7a4 29 = .ok (.ldc_w 267, 3) := by decide +kernel
theorem dJ6_bitCount_0f7a4_32 : decode cJ6_bitCount_0f7a4 32 = .ok (.iand, 1) := by decide +kernel
theorem dJ6_bitCount_0f7a4_33 : decode cJ6_bitCount_0f7a4 33 = .ok (.istore_n 0, 1) := by decide +kernel
theorem dJ6_bitCount_0f7a4_34 : decode cJ6_bitCount_0f7a4 34 = .ok (.iload_n 0, 1) := by decide +kernel
theorem dJ6_bitCount_0f7a4_35 : decode cJ6_bitCount_0f7a4 35 = .ok (.iload_n 0, 1) := by decide +kernel
theorem dJ6_bitCount_0f7a4_36 : decode cJ6_bitCount_0f7a4 36 = .ok (.bipush 8, 2) := by decide +kernel
theorem dJ6_bitCount_0f7a4_38 : decode cJ6_bitCount_0f7a4 38 = .ok (.iushr, 1) := by decide +kernel
theorem dJ6_bitCount_0f7a4_39 : decode cJ6_bitCount_0f7a4 39 = .ok (.iadd, 1) := by decide +kernel
theorem dJ6_bitCount_0f7a4_40 : decode cJ6_bitCount_0f7a4 40 = .ok (.istore_n 0, 1) := by decide +kernel
theorem dJ6_bitCount_0f7a4_41 : decode cJ6_bitCount_0f7a4 41 = .ok (.iload_n 0, 1) := by decide +kernel
theorem dJ6_bitCount_0f7a4_42 : decode cJ6_bitCount_0f7a4 42 = .ok (.iload_n 0, 1) := by decide +kernel
theorem dJ6_bitCount_0f7a4_43 : decode cJ6_bitCount_0f7a4 43 = .ok (.bipush 16, 2) := by decide +kernel
theorem dJ6_bitCount_0f7a4_45 : decode cJ6_bitCount_0f7a4 45 = .ok (.iushr, 1) := by decide +kernel
theorem dJ6_bitCount_0f7a4_46 : decode cJ6_bitCount_0f7a4 46 = .ok (.iadd, 1) := by decide +kernel
theorem dJ6_bitCount_0f7a4_47 : decode cJ6_bitCount_0f7a4 47 = .ok (.istore_n 0, 1) := by decide +kernel
theorem dJ6_bitCount_0f7a4_48 : decode cJ6_bitCount_0f7a4 48 = .ok (.iload_n 0, 1) := by decide +kernel
theorem dJ6_bitCount_0f7a4_49 : decode cJ6_bitCount_0f7a4 49 = .ok (.bipush 63, 2) := by decide +kernel
theorem dJ6_bitCount_0f7a4_51 : decode cJ6_bitCount_0f7a4 51 = .ok (.iand, 1) := by decide +kernel
theorem dJ6_bitCount_0f7a4_52 : decode cJ6_bitCount_0f7a4 52 = .ok (.ireturn, 1) := by decide +kernel
theorem dJ7_fill_d0a16_0 : decode cJ7_fill_d0a16 0 = .ok (.iconst 0, 1) := by decide +kernel
theorem dJ7_fill_d0a16_1 : decode cJ7_fill_d0a16 1 = .ok (.istore_n 3, 1) := by decide +kernel
theorem dJ7_fill_d0a16_2 : decode cJ7_fill_d0a16 2 = .ok (.aload_n 0, 1) := by decide +kernel
theorem dJ7_fill_d0a16_3 : decode cJ7_fill_d0a16 3 = .ok (.arraylength, 1) := by decide +kernel
theorem dJ7_fill_d0a16_4 : decode cJ7_fill_d0a16 4 = .ok (.istore 4, 2) := by decide +kernel
theorem dJ7_fill_d0a16_6 : decode cJ7_fill_d0a16 6 = .ok (.iload_n 3, 1) := by decide +kernel
theorem dJ7_fill_d0a16_7 : decode cJ7_fill_d0a16 7 = .ok (.iload 4, 2) := by decide +kernel
theorem dJ7_fill_d0a16_9 : decode cJ7_fill_d0a16 9 = .ok (.if_icmp .ge 13, 3) := by decide +kernel
theorem dJ7_fill_d0a16_12 : decode cJ7_fill_d0a16 12 = .ok (.aload_n 0, 1) := by decide +kernel
theorem dJ7_fill_d0a16_13 : decode cJ7_fill_d0a16 13 = .ok (.iload_n 3, 1) := by decide +kernel
theorem dJ7_fill_d0a16_14 : decode cJ7_fill_d0a16 14 = .ok (.lload_n 1, 1) := by decide +kernel
theorem dJ7_fill_d0a16_15 : decode cJ7_fill_d0a16 15 = .ok (.lastore, 1) := by decide +kernel
theorem dJ7_fill_d0a16_16 : decode cJ7_fill_d0a16 16 = .ok (.iinc 3 1, 3) := by decide +kernel
theorem dJ7_fill_d0a16_19 : decode cJ7_fill_d0a16 19 = .ok (.goto (-13), 3) := by decide +kernel
theorem dJ7_fill_d0a16_22 : decode cJ7_fill_d0a16 22 = .ok (.return_, 1) := by decide +kernel
theorem dJ7_fill_53178_0 : decode cJ7_fill_53178 0 = .ok (.iconst 0, 1) := by decide +kernel
theorem dJ7_fill_53178_1 : decode cJ7_fill_53178 1 = .ok (.istore_n 2, 1) := by decide +kernel
theorem dJ7_fill_53178_2 : decode cJ7_fill_53178 2 = .ok (.aload_n 0, 1) := by decide +kernel
theorem dJ7_fill_53178_3 : decode cJ7_fill_53178 3 = .ok (.arraylength, 1) := by decide +kernel
theorem dJ7_fill_53178_4 : decode cJ7_fill_53178 4 = .ok (.istore_n 3, 1) := by decide +kernel
theorem dJ7_fill_53178_5 : decode cJ7_fill_53178 5 = .ok (.iload_n 2, 1) := by decide +kernel
theorem dJ7_fill_53178_6 : decode cJ7_fill_53178 6 = .ok (.iload_n 3, 1) := by decide +kernel
theorem dJ7_fill_53178_7 : decode cJ7_fill_53178 7 = .ok (.if_icmp .ge 13, 3) := by decide +kernel
theorem dJ7_fill_53178_10 : decode cJ7_fill_53178 10 = .ok (.aload_n 0, 1) := by decide +kernel
theorem dJ7_fill_53178_11 : decode cJ7_fill_53178 11 = .ok (.iload_n 2, 1) := by decide +kernel
theorem dJ7_fill_53178_12 : decode cJ7_fill_53178 12 = .ok (.iload_n 1, 1) := by decide +kernel
theorem dJ7_fill_53178_13 : decode cJ7_fill_53178 13 = .ok (.iastore, 1) := by decide +kernel
theorem dJ7_fill_53178_14 : decode cJ7_fill_53178 14 = .ok (.iinc 2 1, 3) := by decide +kernel
theorem dJ7_fill_53178_17 : decode cJ7_fill_53178 17 = .ok (.goto (-12), 3) := by decide +kernel
theorem dJ7_fill_53178_20 : decode cJ7_fill_53178 20 = .ok (.return_, 1) := by decide +kernel
theorem dJ9_floorMod_7cf53_0 : decode cJ9_floorMod_7cf53 0 = .ok (.iload_n 0, 1) := by decide +kernel
theorem dJ9_floorMod_7cf53_1 : decode cJ9_floorMod_7cf53 1 = .ok (.iload_n 1, 1) := by decide +kernel
theorem dJ9_floorMod_7cf53_2 : decode cJ9_floorMod_7cf53 2 = .ok (.irem, 1) := by decide +kernel
theorem dJ9_floorMod_7cf53_3 : decode cJ9_floorMod_7cf53 3 = .ok (.istore_n 2, 1) := by decide +kernel
theorem dJ9_floorMod_7cf53_4 : decode cJ9_floorMod_7cf53 4 = .ok (.iload_n 0, 1) := by decide +kernel
theorem dJ9_floorMod_7cf53_5 : decode cJ9_floorMod_7cf53 5 = .ok (.iload_n 1, 1) := by decide +kernel
theorem dJ9_floorMod_7cf53_6 : decode cJ9_floorMod_7cf53 6 = .ok (.ixor, 1) := by decide +kernel
theorem dJ9_floorMod_7cf53_7 : decode cJ9_floorMod_7cf53 7 = .ok (.ifCond .ge 11, 3) := by decide +kernel
theorem dJ9_floorMod_7cf53_10 : decode cJ9_floorMod_7cf53 10 = .ok (.iload_n 2, 1) := by decide +kernel
theorem dJ9_floorMod_7cf53_11 : decode cJ9_floorMod_7cf53 11 = .ok (.ifCond .eq 7, 3) := by decide +kernel
theorem dJ9_floorMod_7cf53_14 : decode cJ9_floorMod_7cf53 14 = .ok (.iload_n 2, 1) := by decide +kernel
theorem dJ9_floorMod_7cf53_15 : decode cJ9_floorMod_7cf53 15 = .ok (.iload_n 1, 1) := by decide +kernel
theorem dJ9_floorMod_7cf53_16 : decode cJ9_floorMod_7cf53 16 = .ok (.iadd, 1) := by decide +kernel
theorem dJ9_floorMod_7cf53_17 : decode cJ9_floorMod_7cf53 17 = .ok (.ireturn, 1) := by decide +kernel
theorem dJ9_floorMod_7cf53_18 : decode cJ9_floorMod_7cf53 18 = .ok (.iload_n 2, 1) := by decide +kernel
theorem dJ9_floorMod_7cf53_19 : decode cJ9_floorMod_7cf53 19 = .ok (.ireturn, 1) := by decide +kernel
theorem dJ9_abs_0f7a4_0 : decode cJ9_abs_0f7a4 0 = .ok (.iload_n 0, 1) := by decide +kernel
theorem dJ9_abs_0f7a4_1 : decode cJ9_abs_0f7a4 1 = .ok (.ifCond .ge 8, 3) := by decide +kernel
theorem dJ9_abs_0f7a4_4 : decode cJ9_abs_0f7a4 4 = .ok (.iload_n 0, 1) := by decide +kernel
theorem dJ9_abs_0f7a4_5 : decode cJ9_abs_0f7a4 5 = .ok (.ineg, 1) := by decide +kernel
theorem dJ9_abs_0f7a4_6 : decode cJ9_abs_0f7a4 6 = .ok (.goto 4, 3) := by decide +kernel
theorem dJ9_abs_0f7a4_9 : decode cJ9_abs_0f7a4 9 = .ok (.iload_n 0, 1) := by decide +kernel
theorem dJ9_abs_0f7a4_10 : decode cJ9_abs_0f7a4 10 = .ok (.ireturn, 1) := by decide +kernel
theorem dJ9_max_7cf53_0 : decode cJ9_max_7cf53 0 = .ok (.iload_n 0, 1) := by decide +kernel
theorem dJ9_max_7cf53_1 : decode cJ9_max_7cf53 1 = .ok (.iload_n 1, 1) := by decide +kernel
theorem dJ9_max_7cf53_2 : decode cJ9_max_7cf53 2 = .ok (.if_icmp .lt 7, 3) := by decide +kernel
theorem dJ9_max_7cf53_5 : decode cJ9_max_7cf53 5 = .ok (.iload_n 0, 1) := by decide +kernel
theorem dJ9_max_7cf53_6 : decode cJ9_max_7cf53 6 = .ok (.goto 4, 3) := by decide +kernel
theorem dJ9_max_7cf53_9 : decode cJ9_max_7cf53 9 = .ok (.iload_n 1, 1) := by decide +kernel
theorem dJ9_max_7cf53_10 : decode cJ9_max_7cf53 10 = .ok (.ireturn, 1) := by decide +kernel
theorem dJ9_min_7cf53_0 : decode cJ9_min_7cf53 0 = .ok (.iload_n 0, 1) := by decide +kernel
theorem dJ9_min_7cf53_1 : decode cJ9_min_7cf53 1 = .ok (.iload_n 1, 1) := by decide +kernel
theorem dJ9_min_7cf53_2 : decode cJ9_min_7cf53 2 = .ok (.if_icmp .gt 7, 3) := by decide +kernel
theorem dJ9_min_7cf53_5 : decode cJ9_min_7cf53 5 = .ok (.iload_n 0, 1) := by decide +kernel
theorem dJ9_min_7cf53_6 : decode cJ9_min_7cf53 6 = .ok (.goto 4, 3) := by decide +kernel
theorem dJ9_min_7cf53_9 : decode cJ9_min_7cf53 9 = .ok (.iload_n 1, 1) := by decide +kernel
theorem dJ9_min_7cf53_10 : decode cJ9_min_7cf53 10 = .ok (.ireturn, 1) := by decide +kernel
