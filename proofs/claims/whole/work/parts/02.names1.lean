theorem dX0_init_0 : decode cX0_init 0 = .ok (.aload_n 0, 1) := by decide +kernel
theorem dX0_init_1 : decode cX0_init 1 = .ok (.invokespecial 3, 3) := by decide +kernel
theorem dX0_init_4 : decode cX0_init 4 = .ok (.aload_n 0, 1) := by decide +kernel
theorem dX0_init_5 : decode cX0_init 5 = .ok (.bipush 12, 2) := by decide +kernel
theorem dX0_init_7 : decode cX0_init 7 = .ok (.newarray .int, 2) := by decide +kernel
theorem dX0_init_9 : decode cX0_init 9 = .ok (.putfield 9, 3) := by decide +kernel
theorem dX0_init_12 : decode cX0_init 12 = .ok (.aload_n 0, 1) := by decide +kernel
theorem dX0_init_13 : decode cX0_init 13 = .ok (.bipush 12, 2) := by decide +kernel
theorem dX0_init_15 : decode cX0_init 15 = .ok (.bipush 13, 2) := by decide +kernel
theorem dX0_init_17 : decode cX0_init 17 = .ok (.multianewarray 15 2, 4) := by decide +kernel
theorem dX0_init_21 : decode cX0_init 21 = .ok (.putfield 17, 3) := by decide +kernel
theorem dX0_init_24 : decode cX0_init 24 = .ok (.aload_n 0, 1) := by decide +kernel
theorem dX0_init_25 : decode cX0_init 25 = .ok (.bipush 12, 2) := by decide +kernel
theorem dX0_init_27 : decode cX0_init 27 = .ok (.bipush 13, 2) := by decide +kernel
theorem dX0_init_29 : decode cX0_init 29 = .ok (.multianewarray 15 2, 4) := by decide +kernel
theorem dX0_init_33 : decode cX0_init 33 = .ok (.putfield 20, 3) := by decide +kernel
theorem dX0_init_36 : decode cX0_init 36 = .ok (.aload_n 0, 1) := by decide +kernel
theorem dX0_init_37 : decode cX0_init 37 = .ok (.bipush 12, 2) := by decide +kernel
theorem dX0_init_39 : decode cX0_init 39 = .ok (.newarray .int, 2) := by decide +kernel
theorem dX0_init_41 : decode cX0_init 41 = .ok (.putfield 23, 3) := by decide +kernel
theorem dX0_init_44 : decode cX0_init 44 = .ok (.aload_n 0, 1) := by decide +kernel
theorem dX0_init_45 : decode cX0_init 45 = .ok (.aload_n 1, 1) := by decide +kernel
theorem dX0_init_46 : decode cX0_init 46 = .ok (.putfield 26, 3) := by decide +kernel
theorem dX0_init_49 : decode cX0_init 49 = .ok (.aload_n 0, 1) := by decide +kernel
theorem dX0_init_50 : decode cX0_init 50 = .ok (.aload_n 2, 1) := by decide +kernel
theorem dX0_init_51 : decode cX0_init 51 = .ok (.putfield 30, 3) := by decide +kernel
theorem dX0_init_54 : decode cX0_init 54 = .ok (.aload_n 0, 1) := by decide +kernel
theorem dX0_init_55 : decode cX0_init 55 = .ok (.aload_n 3, 1) := by decide +kernel
theorem dX0_init_56 : decode cX0_init 56 = .ok (.putfield 34, 3) := by decide +kernel
theorem dX0_init_59 : decode cX0_init 59 = .ok (.return_, 1) := by decide +kernel
theorem dX0_reset_0 : decode cX0_reset 0 = .ok (.iconst 0, 1) := by decide +kernel
theorem dX0_reset_1 : decode cX0_reset 1 = .ok (.istore_n 1, 1) := by decide +kernel
theorem dX0_reset_2 : decode cX0_reset 2 = .ok (.iload_n 1, 1) := by decide +kernel
theorem dX0_reset_3 : decode cX0_reset 3 = .ok (.bipush 12, 2) := by decide +kernel
theorem dX0_reset_5 : decode cX0_reset 5 = .ok (.if_icmp .ge 16, 3) := by decide +kernel
theorem dX0_reset_8 : decode cX0_reset 8 = .ok (.aload_n 0, 1) := by decide +kernel
theorem dX0_reset_9 : decode cX0_reset 9 = .ok (.getfield 9, 3) := by decide +kernel
theorem dX0_reset_12 : decode cX0_reset 12 = .ok (.iload_n 1, 1) := by decide +kernel
theorem dX0_reset_13 : decode cX0_reset 13 = .ok (.iload_n 1, 1) := by decide +kernel
theorem dX0_reset_14 : decode cX0_reset 14 = .ok (.iastore, 1) := by decide +kernel
theorem dX0_reset_15 : decode cX0_reset 15 = .ok (.iinc 1 1, 3) := by decide +kernel
theorem dX0_reset_18 : decode cX0_reset 18 = .ok (.goto (-16), 3) := by decide +kernel
theorem dX0_reset_21 : decode cX0_reset 21 = .ok (.return_, 1) := by decide +kernel
theorem dX0_placeOf_0 : decode cX0_placeOf 0 = .ok (.iconst 0, 1) := by decide +kernel
theorem dX0_placeOf_1 : decode cX0_placeOf 1 = .ok (.istore_n 2, 1) := by decide +kernel
theorem dX0_placeOf_2 : decode cX0_placeOf 2 = .ok (.iload_n 2, 1) := by decide +kernel
theorem dX0_placeOf_3 : decode cX0_placeOf 3 = .ok (.aload_n 0, 1) := by decide +kernel
theorem dX0_placeOf_4 : decode cX0_placeOf 4 = .ok (.getfield 26, 3) := by decide +kernel
theorem dX0_placeOf_7 : decode cX0_placeOf 7 = .ok (.getfield 38, 3) := by decide +kernel
theorem dX0_placeOf_10 : decode cX0_placeOf 10 = .ok (.if_icmp .ge 21, 3) := by decide +kernel
theorem dX0_placeOf_13 : decode cX0_placeOf 13 = .ok (.aload_n 0, 1) := by decide +kernel
theorem dX0_placeOf_14 : decode cX0_placeOf 14 = .ok (.getfield 9, 3) := by decide +kernel
theorem dX0_placeOf_17 : decode cX0_placeOf 17 = .ok (.iload_n 2, 1) := by decide +kernel
theorem dX0_placeOf_18 : decode cX0_placeOf 18 = .ok (.iaload, 1) := by decide +kernel
theorem dX0_placeOf_19 : decode cX0_placeOf 19 = .ok (.iload_n 1, 1) := by decide +kernel
theorem dX0_placeOf_20 : decode cX0_placeOf 20 = .ok (.if_icmp .ne 5, 3) := by decide +kernel
theorem dX0_placeOf_23 : decode cX0_placeOf 23 = .ok (.iload_n 2, 1) := by decide +kernel
theorem dX0_placeOf_24 : decode cX0_placeOf 24 = .ok (.ireturn, 1) := by decide +kernel
theorem dX0_placeOf_25 : decode cX0_placeOf 25 = .ok (.iinc 2 1, 3) := by decide +kernel
theorem dX0_placeOf_28 : decode cX0_placeOf 28 = .ok (.goto (-26), 3) := by decide +kernel
theorem dX0_placeOf_31 : decode cX0_placeOf 31 = .ok (.iconst (-1), 1) := by decide +kernel
theorem dX0_placeOf_32 : decode cX0_placeOf 32 = .ok (.ireturn, 1) := by decide +kernel
theorem dX0_swap_0 : decode cX0_swap 0 = .ok (.aload_n 0, 1) := by decide +kernel
theorem dX0_swap_1 : decode cX0_swap 1 = .ok (.getfield 9, 3) := by decide +kernel
theorem dX0_swap_4 : decode cX0_swap 4 = .ok (.iload_n 1, 1) := by decide +kernel
theorem dX0_swap_5 : decode cX0_swap 5 = .ok (.iaload, 1) := by decide +kernel
theorem dX0_swap_6 : decode cX0_swap 6 = .ok (.istore_n 3, 1) := by decide +kernel
theorem dX0_swap_7 : decode cX0_swap 7 = .ok (.aload_n 0, 1) := by decide +kernel
theorem dX0_swap_8 : decode cX0_swap 8 = .ok (.getfield 9, 3) := by decide +kernel
theorem dX0_swap_11 : decode cX0_swap 11 = .ok (.iload_n 1, 1) := by decide +kernel
theorem dX0_swap_12 : decode cX0_swap 12 = .ok (.aload_n 0, 1) := by decide +kernel
theorem dX0_swap_13 : decode cX0_swap 13 = .ok (.getfield 9, 3) := by decide +kernel
theorem dX0_swap_16 : decode cX0_swap 16 = .ok (.iload_n 2, 1) := by decide +kernel
theorem dX0_swap_17 : decode cX0_swap 17 = .ok (.iaload, 1) := by decide +kernel
theorem dX0_swap_18 : decode cX0_swap 18 = .ok (.iastore, 1) := by decide +kernel
theorem dX0_swap_19 : decode cX0_swap 19 = .ok (.aload_n 0, 1) := by decide +kernel
theorem dX0_swap_20 : decode cX0_swap 20 = .ok (.getfield 9, 3) := by decide +kernel
theorem dX0_swap_23 : decode cX0_swap 23 = .ok (.iload_n 2, 1) := by decide +kernel
theorem dX0_swap_24 : decode cX0_swap 24 = .ok (.iload_n 3, 1) := by decide +kernel
theorem dX0_swap_25 : decode cX0_swap 25 = .ok (.iastore, 1) := by decide +kernel
theorem dX0_swap_26 : decode cX0_swap 26 = .ok (.return_, 1) := by decide +kernel
theorem dX0_prepare_0 : decode cX0_prepare 0 = .ok (.aload_n 0, 1) := by decide +kernel
theorem dX0_prepare_1 : decode cX0_prepare 1 = .ok (.getfield 34, 3) := by decide +kernel
theorem dX0_prepare_4 : decode cX0_prepare 4 = .ok (.invokevirtual 44, 3) := by decide +kernel
theorem dX0_prepare_7 : decode cX0_prepare 7 = .ok (.aload_n 0, 1) := by decide +kernel
theorem dX0_prepare_8 : decode cX0_prepare 8 = .ok (.aload_n 0, 1) := by decide +kernel
theorem dX0_prepare_9 : decode cX0_prepare 9 = .ok (.getfield 30, 3) := by decide +kernel
theorem dX0_prepare_12 : decode cX0_prepare 12 = .ok (.invokevirtual 49, 3) := by decide +kernel
theorem dX0_prepare_15 : decode cX0_prepare 15 = .ok (.putfield 55, 3) := by decide +kernel
theorem dX0_prepare_18 : decode cX0_prepare 18 = .ok (.iconst 0, 1) := by decide +kernel
theorem dX0_prepare_19 : decode cX0_prepare 19 = .ok (.istore_n 1, 1) := by decide +kernel
theorem dX0_prepare_20 : decode cX0_prepare 20 = .ok (.iload_n 1, 1) := by decide +kernel
theorem dX0_prepare_21 : decode cX0_prepare 21 = .ok (.aload_n 0, 1) := by decide +kernel
theorem dX0_prepare_22 : decode cX0_prepare 22 = .ok (.getfield 26, 3) := by decide +kernel
theorem dX0_prepare_25 : decode cX0_prepare 25 = .ok (.getfield 57, 3) := by decide +kernel
theorem dX0_prepare_28 : decode cX0_prepare 28 = .ok (.if_icmp .ge 24, 3) := by decide +kernel
theorem dX0_prepare_31 : decode cX0_prepare 31 = .ok (.aload_n 0, 1) := by decide +kernel
theorem dX0_prepare_32 : decode cX0_prepare 32 = .ok (.getfield 30, 3) := by decide +kernel
theorem dX0_prepare_35 : decode cX0_prepare 35 = .ok (.iconst 1, 1) := by decide +kernel
theorem dX0_prepare_36 : decode cX0_prepare 36 = .ok (.iload_n 1, 1) := by decide +kernel
theorem dX0_prepare_37 : decode cX0_prepare 37 = .ok (.ishl, 1) := by decide +kernel
theorem dX0_prepare_38 : decode cX0_prepare 38 = .ok (.invokevirtual 60, 3) := by decide +kernel
theorem dX0_prepare_41 : decode cX0_prepare 41 = .ok (.aload_n 0, 1) := by decide +kernel
theorem dX0_prepare_42 : decode cX0_prepare 42 = .ok (.iload_n 1, 1) := by decide +kernel
theorem dX0_prepare_43 : decode cX0_prepare 43 = .ok (.invokevirtual 64, 3) := by decide +kernel
theorem dX0_prepare_46 : decode cX0_prepare 46 = .ok (.iinc 1 1, 3) := by decide +kernel
theorem dX0_prepare_49 : decode cX0_prepare 49 = .ok (.goto (-29), 3) := by decide +kernel
theorem dX0_prepare_52 : decode cX0_prepare 52 = .ok (.return_, 1) := by decide +kernel
theorem dX0_setStages_0 : decode cX0_setStages 0 = .ok (.iconst 0, 1) := by decide +kernel
theorem dX0_setStages_1 : decode cX0_setStages 1 = .ok (.istore_n 2, 1) := by decide +kernel
theorem dX0_setStages_2 : decode cX0_setStages 2 = .ok (.iconst 0, 1) := by decide +kernel
theorem dX0_setStages_3 : decode cX0_setStages 3 = .ok (.istore_n 3, 1) := by decide +kernel
theorem dX0_setStages_4 : decode cX0_setStages 4 = .ok (.iload_n 2, 1) := by decide +kernel
theorem dX0_setStages_5 : decode cX0_setStages 5 = .ok (.bipush 13, 2) := by decide +kernel
theorem dX0_setStages_7 : decode cX0_setStages 7 = .ok (.if_icmp .ge 63, 3) := by decide +kernel
theorem dX0_setStages_10 : decode cX0_setStages 10 = .ok (.iload_n 3, 1) := by decide +kernel
theorem dX0_setStages_11 : decode cX0_setStages 11 = .ok (.ldc 67, 2) := by decide +kernel
theorem dX0_setStages_13 : decode cX0_setStages 13 = .ok (.if_icmp .ge 57, 3) := by decide +kernel
theorem dX0_setStages_16 : decode cX0_setStages 16 = .ok (.aload_n 0, 1) := by decide +kernel
theorem dX0_setStages_17 : decode cX0_setStages 17 = .ok (.getfield 17, 3) := by decide +kernel
theorem dX0_setStages_20 : decode cX0_setStages 20 = .ok (.iload_n 1, 1) := by decide +kernel
theorem dX0_setStages_21 : decode cX0_setStages 21 = .ok (.aaload, 1) := by decide +kernel
theorem dX0_setStages_22 : decode cX0_setStages 22 = .ok (.iload_n 2, 1) := by decide +kernel
theorem dX0_setStages_23 : decode cX0_setStages 23 = .ok (.iload_n 3, 1) := by decide +kernel
theorem dX0_setStages_24 : decode cX0_setStages 24 = .ok (.iastore, 1) := by decide +kernel
theorem dX0_setStages_25 : decode cX0_setStages 25 = .ok (.aload_n 0, 1) := by decide +kernel
theorem dX0_setStages_26 : decode cX0_setStages 26 = .ok (.getfield 20, 3) := by decide +kernel
theorem dX0_setStages_29 : decode cX0_setStages 29 = .ok (.iload_n 1, 1) := by decide +kernel
theorem dX0_setStages_30 : decode cX0_setStages 30 = .ok (.aaload, 1) := by decide +kernel
theorem dX0_setStages_31 : decode cX0_setStages 31 = .ok (.iload_n 2, 1) := by decide +kernel
theorem dX0_setStages_32 : decode cX0_setStages 32 = .ok (.aload_n 0, 1) := by decide +kernel
theorem dX0_setStages_33 : decode cX0_setStages 33 = .ok (.getfield 30, 3) := by decide +kernel
theorem dX0_setStages_36 : decode cX0_setStages 36 = .ok (.aload_n 0, 1) := by decide +kernel
theorem dX0_setStages_37 : decode cX0_setStages 37 = .ok (.getfield 30, 3) := by decide +kernel
theorem dX0_setStages_40 : decode cX0_setStages 40 = .ok (.iload_n 3, 1) := by decide +kernel
theorem dX0_setStages_41 : decode cX0_setStages 41 = .ok (.invokevirtual 68, 3) := by decide +kernel
theorem dX0_setStages_44 : decode cX0_setStages 44 = .ok (.aload_n 0, 1) := by decide +kernel
theorem dX0_setStages_45 : decode cX0_setStages 45 = .ok (.getfield 30, 3) := by decide +kernel
theorem dX0_setStages_48 : decode cX0_setStages 48 = .ok (.getfield 72, 3) := by decide +kernel
theorem dX0_setStages_51 : decode cX0_setStages 51 = .ok (.invokevirtual 75, 3) := by decide +kernel
theorem dX0_setStages_54 : decode cX0_setStages 54 = .ok (.iastore, 1) := by decide +kernel
theorem dX0_setStages_55 : decode cX0_setStages 55 = .ok (.iinc 2 1, 3) := by decide +kernel
theorem dX0_setStages_58 : decode cX0_setStages 58 = .ok (.aload_n 0, 1) := by decide +kernel
theorem dX0_setStages_59 : decode cX0_setStages 59 = .ok (.getfield 30, 3) := by decide +kernel
theorem dX0_setStages_62 : decode cX0_setStages 62 = .ok (.iload_n 3, 1) := by decide +kernel
theorem dX0_setStages_63 : decode cX0_setStages 63 = .ok (.invokevirtual 79, 3) := by decide +kernel
theorem dX0_setStages_66 : decode cX0_setStages 66 = .ok (.istore_n 3, 1) := by decide +kernel
theorem dX0_setStages_67 : decode cX0_setStages 67 = .ok (.goto (-63), 3) := by decide +kernel
theorem dX0_setStages_70 : decode cX0_setStages 70 = .ok (.aload_n 0, 1) := by decide +kernel
theorem dX0_setStages_71 : decode cX0_setStages 71 = .ok (.getfield 23, 3) := by decide +kernel
theorem dX0_setStages_74 : decode cX0_setStages 74 = .ok (.iload_n 1, 1) := by decide +kernel
theorem dX0_setStages_75 : decode cX0_setStages 75 = .ok (.iload_n 2, 1) := by decide +kernel
theorem dX0_setStages_76 : decode cX0_setStages 76 = .ok (.iastore, 1) := by decide +kernel
theorem dX0_setStages_77 : decode cX0_setStages 77 = .ok (.return_, 1) := by decide +kernel
theorem dX0_tell_0 : decode cX0_tell 0 = .ok (.iconst 0, 1) := by decide +kernel
theorem dX0_tell_1 : decode cX0_tell 1 = .ok (.istore_n 3, 1) := by decide +kernel
theorem dX0_tell_2 : decode cX0_tell 2 = .ok (.iconst 0, 1) := by decide +kernel
theorem dX0_tell_3 : decode cX0_tell 3 = .ok (.istore 4, 2) := by decide +kernel
theorem dX0_tell_5 : decode cX0_tell 5 = .ok (.iconst 0, 1) := by decide +kernel
theorem dX0_tell_6 : decode cX0_tell 6 = .ok (.istore 5, 2) := by decide +kernel
theorem dX0_tell_8 : decode cX0_tell 8 = .ok (.iconst 0, 1) := by decide +kernel
theorem dX0_tell_9 : decode cX0_tell 9 = .ok (.istore 6, 2) := by decide +kernel
theorem dX0_tell_11 : decode cX0_tell 11 = .ok (.iload 6, 2) := by decide +kernel
theorem dX0_tell_13 : decode cX0_tell 13 = .ok (.bipush 25, 2) := by decide +kernel
theorem dX0_tell_15 : decode cX0_tell 15 = .ok (.if_icmp .ge 119, 3) := by decide +kernel
theorem dX0_tell_18 : decode cX0_tell 18 = .ok (.aload_n 0, 1) := by decide +kernel
theorem dX0_tell_19 : decode cX0_tell 19 = .ok (.iload_n 1, 1) := by decide +kernel
theorem dX0_tell_20 : decode cX0_tell 20 = .ok (.iload 4, 2) := by decide +kernel
theorem dX0_tell_22 : decode cX0_tell 22 = .ok (.iload_n 3, 1) := by decide +kernel
theorem dX0_tell_23 : decode cX0_tell 23 = .ok (.invokevirtual 82, 3) := by decide +kernel
theorem dX0_tell_26 : decode cX0_tell 26 = .ok (.istore 4, 2) := by decide +kernel
theorem dX0_tell_28 : decode cX0_tell 28 = .ok (.aload_n 0, 1) := by decide +kernel
theorem dX0_tell_29 : decode cX0_tell 29 = .ok (.getfield 20, 3) := by decide +kernel
theorem dX0_tell_32 : decode cX0_tell 32 = .ok (.iload_n 1, 1) := by decide +kernel
theorem dX0_tell_33 : decode cX0_tell 33 = .ok (.aaload, 1) := by decide +kernel
theorem dX0_tell_34 : decode cX0_tell 34 = .ok (.iload 4, 2) := by decide +kernel
theorem dX0_tell_36 : decode cX0_tell 36 = .ok (.iaload, 1) := by decide +kernel
theorem dX0_tell_37 : decode cX0_tell 37 = .ok (.iload 5, 2) := by decide +kernel
theorem dX0_tell_39 : decode cX0_tell 39 = .ok (.iconst (-1), 1) := by decide +kernel
theorem dX0_tell_40 : decode cX0_tell 40 = .ok (.ixor, 1) := by decide +kernel
theorem dX0_tell_41 : decode cX0_tell 41 = .ok (.iand, 1) := by decide +kernel
theorem dX0_tell_42 : decode cX0_tell 42 = .ok (.istore 7, 2) := by decide +kernel
theorem dX0_tell_44 : decode cX0_tell 44 = .ok (.iload 7, 2) := by decide +kernel
theorem dX0_tell_46 : decode cX0_tell 46 = .ok (.ifCond .eq 52, 3) := by decide +kernel
theorem dX0_tell_49 : decode cX0_tell 49 = .ok (.iload_n 3, 1) := by decide +kernel
theorem dX0_tell_50 : decode cX0_tell 50 = .ok (.iload_n 2, 1) := by decide +kernel
theorem dX0_tell_51 : decode cX0_tell 51 = .ok (.iadd, 1) := by decide +kernel
theorem dX0_tell_52 : decode cX0_tell 52 = .ok (.istore_n 3, 1) := by decide +kernel
theorem dX0_tell_53 : decode cX0_tell 53 = .ok (.iload 5, 2) := by decide +kernel
theorem dX0_tell_55 : decode cX0_tell 55 = .ok (.iconst 1, 1) := by decide +kernel
theorem dX0_tell_56 : decode cX0_tell 56 = .ok (.aload_n 0, 1) := by decide +kernel
theorem dX0_tell_57 : decode cX0_tell 57 = .ok (.iload 7, 2) := by decide +kernel
theorem dX0_tell_59 : decode cX0_tell 59 = .ok (.invokevirtual 86, 3) := by decide +kernel
theorem dX0_tell_62 : decode cX0_tell 62 = .ok (.ishl, 1) := by decide +kernel
theorem dX0_tell_63 : decode cX0_tell 63 = .ok (.ior, 1) := by decide +kernel
theorem dX0_tell_64 : decode cX0_tell 64 = .ok (.istore 5, 2) := by decide +kernel
theorem dX0_tell_66 : decode cX0_tell 66 = .ok (.iload_n 3, 1) := by decide +kernel
theorem dX0_tell_67 : decode cX0_tell 67 = .ok (.aload_n 0, 1) := by decide +kernel
theorem dX0_tell_68 : decode cX0_tell 68 = .ok (.getfield 34, 3) := by decide +kernel
theorem dX0_tell_71 : decode cX0_tell 71 = .ok (.getfield 89, 3) := by decide +kernel
theorem dX0_tell_74 : decode cX0_tell 74 = .ok (.if_icmp .le 5, 3) := by decide +kernel
theorem dX0_tell_77 : decode cX0_tell 77 = .ok (.iconst (-1), 1) := by decide +kernel
theorem dX0_tell_78 : decode cX0_tell 78 = .ok (.ireturn, 1) := by decide +kernel
theorem dX0_tell_79 : decode cX0_tell 79 = .ok (.aload_n 0, 1) := by decide +kernel
theorem dX0_tell_80 : decode cX0_tell 80 = .ok (.iload 5, 2) := by decide +kernel
theorem dX0_tell_82 : decode cX0_tell 82 = .ok (.aload_n 0, 1) := by decide +kernel
theorem dX0_tell_83 : decode cX0_tell 83 = .ok (.getfield 55, 3) := by decide +kernel
theorem dX0_tell_86 : decode cX0_tell 86 = .ok (.iconst (-1), 1) := by decide +kernel
theorem dX0_tell_87 : decode cX0_tell 87 = .ok (.ixor, 1) := by decide +kernel
theorem dX0_tell_88 : decode cX0_tell 88 = .ok (.iand, 1) := by decide +kernel
theorem dX0_tell_89 : decode cX0_tell 89 = .ok (.invokevirtual 92, 3) := by decide +kernel
theorem dX0_tell_92 : decode cX0_tell 92 = .ok (.iconst 1, 1) := by decide +kernel
theorem dX0_tell_93 : decode cX0_tell 93 = .ok (.if_icmp .ne 35, 3) := by decide +kernel
theorem dX0_tell_96 : decode cX0_tell 96 = .ok (.iload_n 3, 1) := by decide +kernel
theorem dX0_tell_97 : decode cX0_tell 97 = .ok (.ireturn, 1) := by decide +kernel
theorem dX0_tell_98 : decode cX0_tell 98 = .ok (.iload 4, 2) := by decide +kernel
theorem dX0_tell_100 : decode cX0_tell 100 = .ok (.iconst 1, 1) := by decide +kernel
theorem dX0_tell_101 : decode cX0_tell 101 = .ok (.iadd, 1) := by decide +kernel
theorem dX0_tell_102 : decode cX0_tell 102 = .ok (.aload_n 0, 1) := by decide +kernel
theorem dX0_tell_103 : decode cX0_tell 103 = .ok (.getfield 23, 3) := by decide +kernel
theorem dX0_tell_106 : decode cX0_tell 106 = .ok (.iload_n 1, 1) := by decide +kernel
theorem dX0_tell_107 : decode cX0_tell 107 = .ok (.iaload, 1) := by decide +kernel
theorem dX0_tell_108 : decode cX0_tell 108 = .ok (.if_icmp .ge 18, 3) := by decide +kernel
theorem dX0_tell_111 : decode cX0_tell 111 = .ok (.aload_n 0, 1) := by decide +kernel
theorem dX0_tell_112 : decode cX0_tell 112 = .ok (.getfield 17, 3) := by decide +kernel
theorem dX0_tell_115 : decode cX0_tell 115 = .ok (.iload_n 1, 1) := by decide +kernel
theorem dX0_tell_116 : decode cX0_tell 116 = .ok (.aaload, 1) := by decide +kernel
theorem dX0_tell_117 : decode cX0_tell 117 = .ok (.iload 4, 2) := by decide +kernel
theorem dX0_tell_119 : decode cX0_tell 119 = .ok (.iconst 1, 1) := by decide +kernel
theorem dX0_tell_120 : decode cX0_tell 120 = .ok (.iadd, 1) := by decide +kernel
theorem dX0_tell_121 : decode cX0_tell 121 = .ok (.iaload, 1) := by decide +kernel
theorem dX0_tell_122 : decode cX0_tell 122 = .ok (.istore_n 3, 1) := by decide +kernel
theorem dX0_tell_123 : decode cX0_tell 123 = .ok (.goto 5, 3) := by decide +kernel
theorem dX0_tell_126 : decode cX0_tell 126 = .ok (.iconst (-1), 1) := by decide +kernel
theorem dX0_tell_127 : decode cX0_tell 127 = .ok (.ireturn, 1) := by decide +kernel
theorem dX0_tell_128 : decode cX0_tell 128 = .ok (.iinc 6 1, 3) := by decide +kernel
theorem dX0_tell_131 : decode cX0_tell 131 = .ok (.goto (-120), 3) := by decide +kernel
theorem dX0_tell_134 : decode cX0_tell 134 = .ok (.iconst (-1), 1) := by decide +kernel
theorem dX0_tell_135 : decode cX0_tell 135 = .ok (.ireturn, 1) := by decide +kernel
theorem dX0_stageBy_0 : decode cX0_stageBy 0 = .ok (.iload_n 2, 1) := by decide +kernel
theorem dX0_stageBy_1 : decode cX0_stageBy 1 = .ok (.istore 4, 2) := by decide +kernel
theorem dX0_stageBy_3 : decode cX0_stageBy 3 = .ok (.iload 4, 2) := by decide +kernel
theorem dX0_stageBy_5 : decode cX0_stageBy 5 = .ok (.iconst 1, 1) := by decide +kernel
theorem dX0_stageBy_6 : decode cX0_stageBy 6 = .ok (.iadd, 1) := by decide +kernel
theorem dX0_stageBy_7 : decode cX0_stageBy 7 = .ok (.aload_n 0, 1) := by decide +kernel
theorem dX0_stageBy_8 : decode cX0_stageBy 8 = .ok (.getfield 23, 3) := by decide +kernel
theorem dX0_stageBy_11 : decode cX0_stageBy 11 = .ok (.iload_n 1, 1) := by decide +kernel
theorem dX0_stageBy_12 : decode cX0_stageBy 12 = .ok (.iaload, 1) := by decide +kernel
theorem dX0_stageBy_13 : decode cX0_stageBy 13 = .ok (.if_icmp .ge 24, 3) := by decide +kernel
theorem dX0_stageBy_16 : decode cX0_stageBy 16 = .ok (.aload_n 0, 1) := by decide +kernel
theorem dX0_stageBy_17 : decode cX0_stageBy 17 = .ok (.getfield 17, 3) := by decide +kernel
theorem dX0_stageBy_20 : decode cX0_stageBy 20 = .ok (.iload_n 1, 1) := by decide +kernel
theorem dX0_stageBy_21 : decode cX0_stageBy 21 = .ok (.aaload, 1) := by decide +kernel
theorem dX0_stageBy_22 : decode cX0_stageBy 22 = .ok (.iload 4, 2) := by decide +kernel
theorem dX0_stageBy_24 : decode cX0_stageBy 24 = .ok (.iconst 1, 1) := by decide +kernel
theorem dX0_stageBy_25 : decode cX0_stageBy 25 = .ok (.iadd, 1) := by decide +kernel
theorem dX0_stageBy_26 : decode cX0_stageBy 26 = .ok (.iaload, 1) := by decide +kernel
theorem dX0_stageBy_27 : decode cX0_stageBy 27 = .ok (.iload_n 3, 1) := by decide +kernel
theorem dX0_stageBy_28 : decode cX0_stageBy 28 = .ok (.if_icmp .gt 9, 3) := by decide +kernel
theorem dX0_stageBy_31 : decode cX0_stageBy 31 = .ok (.iinc 4 1, 3) := by decide +kernel
theorem dX0_stageBy_34 : decode cX0_stageBy 34 = .ok (.goto (-31), 3) := by decide +kernel
theorem dX0_stageBy_37 : decode cX0_stageBy 37 = .ok (.iload 4, 2) := by decide +kernel
theorem dX0_stageBy_39 : decode cX0_stageBy 39 = .ok (.ireturn, 1) := by decide +kernel
theorem dX0_nearest_0 : decode cX0_nearest 0 = .ok (.iconst 0, 1) := by decide +kernel
theorem dX0_nearest_1 : decode cX0_nearest 1 = .ok (.istore_n 2, 1) := by decide +kernel
theorem dX0_nearest_2 : decode cX0_nearest 2 = .ok (.iload_n 2, 1) := by decide +kernel
theorem dX0_nearest_3 : decode cX0_nearest 3 = .ok (.aload_n 0, 1) := by decide +kernel
theorem dX0_nearest_4 : decode cX0_nearest 4 = .ok (.getfield 26, 3) := by decide +kernel
theorem dX0_nearest_7 : decode cX0_nearest 7 = .ok (.getfield 38, 3) := by decide +kernel
theorem dX0_nearest_10 : decode cX0_nearest 10 = .ok (.if_icmp .ge 29, 3) := by decide +kernel
theorem dX0_nearest_13 : decode cX0_nearest 13 = .ok (.iload_n 1, 1) := by decide +kernel
theorem dX0_nearest_14 : decode cX0_nearest 14 = .ok (.aload_n 0, 1) := by decide +kernel
theorem dX0_nearest_15 : decode cX0_nearest 15 = .ok (.getfield 9, 3) := by decide +kernel
theorem dX0_nearest_18 : decode cX0_nearest 18 = .ok (.iload_n 2, 1) := by decide +kernel
theorem dX0_nearest_19 : decode cX0_nearest 19 = .ok (.iaload, 1) := by decide +kernel
theorem dX0_nearest_20 : decode cX0_nearest 20 = .ok (.invokestatic 95, 3) := by decide +kernel
theorem dX0_nearest_23 : decode cX0_nearest 23 = .ok (.ifCond .eq 10, 3) := by decide +kernel
theorem dX0_nearest_26 : decode cX0_nearest 26 = .ok (.aload_n 0, 1) := by decide +kernel
theorem dX0_nearest_27 : decode cX0_nearest 27 = .ok (.getfield 9, 3) := by decide +kernel
theorem dX0_nearest_30 : decode cX0_nearest 30 = .ok (.iload_n 2, 1) := by decide +kernel
theorem dX0_nearest_31 : decode cX0_nearest 31 = .ok (.iaload, 1) := by decide +kernel
theorem dX0_nearest_32 : decode cX0_nearest 32 = .ok (.ireturn, 1) := by decide +kernel
theorem dX0_nearest_33 : decode cX0_nearest 33 = .ok (.iinc 2 1, 3) := by decide +kernel
theorem dX0_nearest_36 : decode cX0_nearest 36 = .ok (.goto (-34), 3) := by decide +kernel
theorem dX0_nearest_39 : decode cX0_nearest 39 = .ok (.iconst 0, 1) := by decide +kernel
theorem dX0_nearest_40 : decode cX0_nearest 40 = .ok (.ireturn, 1) := by decide +kernel
theorem dX0_countMayBe_0 : decode cX0_countMayBe 0 = .ok (.iconst 0, 1) := by decide +kernel
theorem dX0_countMayBe_1 : decode cX0_countMayBe 1 = .ok (.istore_n 2, 1) := by decide +kernel
theorem dX0_countMayBe_2 : decode cX0_countMayBe 2 = .ok (.iconst 0, 1) := by decide +kernel
theorem dX0_countMayBe_3 : decode cX0_countMayBe 3 = .ok (.istore_n 3, 1) := by decide +kernel
theorem dX0_countMayBe_4 : decode cX0_countMayBe 4 = .ok (.iload_n 3, 1) := by decide +kernel
theorem dX0_countMayBe_5 : decode cX0_countMayBe 5 = .ok (.aload_n 0, 1) := by decide +kernel
theorem dX0_countMayBe_6 : decode cX0_countMayBe 6 = .ok (.getfield 26, 3) := by decide +kernel
theorem dX0_countMayBe_9 : decode cX0_countMayBe 9 = .ok (.getfield 57, 3) := by decide +kernel
theorem dX0_countMayBe_12 : decode cX0_countMayBe 12 = .ok (.if_icmp .ge 28, 3) := by decide +kernel
theorem dX0_countMayBe_15 : decode cX0_countMayBe 15 = .ok (.iload_n 1, 1) := by decide +kernel
theorem dX0_countMayBe_16 : decode cX0_countMayBe 16 = .ok (.aload_n 0, 1) := by decide +kernel
theorem dX0_countMayBe_17 : decode cX0_countMayBe 17 = .ok (.getfield 34, 3) := by decide +kernel
theorem dX0_countMayBe_20 : decode cX0_countMayBe 20 = .ok (.getfield 99, 3) := by decide +kernel
theorem dX0_countMayBe_23 : decode cX0_countMayBe 23 = .ok (.iload_n 3, 1) := by decide +kernel
theorem dX0_countMayBe_24 : decode cX0_countMayBe 24 = .ok (.iaload, 1) := by decide +kernel
theorem dX0_countMayBe_25 : decode cX0_countMayBe 25 = .ok (.iconst (-1), 1) := by decide +kernel
theorem dX0_countMayBe_26 : decode cX0_countMayBe 26 = .ok (.ixor, 1) := by decide +kernel
theorem dX0_countMayBe_27 : decode cX0_countMayBe 27 = .ok (.iand, 1) := by decide +kernel
theorem dX0_countMayBe_28 : decode cX0_countMayBe 28 = .ok (.ifCond .ne 6, 3) := by decide +kernel
theorem dX0_countMayBe_31 : decode cX0_countMayBe 31 = .ok (.iinc 2 1, 3) := by decide +kernel
theorem dX0_countMayBe_34 : decode cX0_countMayBe 34 = .ok (.iinc 3 1, 3) := by decide +kernel
theorem dX0_countMayBe_37 : decode cX0_countMayBe 37 = .ok (.goto (-33), 3) := by decide +kernel
theorem dX0_countMayBe_40 : decode cX0_countMayBe 40 = .ok (.iload_n 2, 1) := by decide +kernel
theorem dX0_countMayBe_41 : decode cX0_countMayBe 41 = .ok (.ireturn, 1) := by decide +kernel
theorem dX0_sum_0 : decode cX0_sum 0 = .ok (.iconst 0, 1) := by decide +kernel
theorem dX0_sum_1 : decode cX0_sum 1 = .ok (.istore_n 2, 1) := by decide +kernel
theorem dX0_sum_2 : decode cX0_sum 2 = .ok (.iconst 0, 1) := by decide +kernel
theorem dX0_sum_3 : decode cX0_sum 3 = .ok (.istore_n 3, 1) := by decide +kernel
theorem dX0_sum_4 : decode cX0_sum 4 = .ok (.iload_n 3, 1) := by decide +kernel
theorem dX0_sum_5 : decode cX0_sum 5 = .ok (.aload_n 0, 1) := by decide +kernel
theorem dX0_sum_6 : decode cX0_sum 6 = .ok (.getfield 26, 3) := by decide +kernel
theorem dX0_sum_9 : decode cX0_sum 9 = .ok (.getfield 57, 3) := by decide +kernel
theorem dX0_sum_12 : decode cX0_sum 12 = .ok (.if_icmp .ge 38, 3) := by decide +kernel
theorem dX0_sum_15 : decode cX0_sum 15 = .ok (.aload_n 0, 1) := by decide +kernel
theorem dX0_sum_16 : decode cX0_sum 16 = .ok (.iload_n 3, 1) := by decide +kernel
theorem dX0_sum_17 : decode cX0_sum 17 = .ok (.iload_n 1, 1) := by decide +kernel
theorem dX0_sum_18 : decode cX0_sum 18 = .ok (.invokevirtual 102, 3) := by decide +kernel
theorem dX0_sum_21 : decode cX0_sum 21 = .ok (.istore 4, 2) := by decide +kernel
theorem dX0_sum_23 : decode cX0_sum 23 = .ok (.iload_n 2, 1) := by decide +kernel
theorem dX0_sum_24 : decode cX0_sum 24 = .ok (.iload 4, 2) := by decide +kernel
theorem dX0_sum_26 : decode cX0_sum 26 = .ok (.iconst (-1), 1) := by decide +kernel
theorem dX0_sum_27 : decode cX0_sum 27 = .ok (.if_icmp .ne 13, 3) := by decide +kernel
theorem dX0_sum_30 : decode cX0_sum 30 = .ok (.aload_n 0, 1) := by decide +kernel
theorem dX0_sum_31 : decode cX0_sum 31 = .ok (.getfield 34, 3) := by decide +kernel
theorem dX0_sum_34 : decode cX0_sum 34 = .ok (.getfield 89, 3) := by decide +kernel
theorem dX0_sum_37 : decode cX0_sum 37 = .ok (.goto 5, 3) := by decide +kernel
theorem dX0_sum_40 : decode cX0_sum 40 = .ok (.iload 4, 2) := by decide +kernel
theorem dX0_sum_42 : decode cX0_sum 42 = .ok (.iadd, 1) := by decide +kernel
theorem dX0_sum_43 : decode cX0_sum 43 = .ok (.istore_n 2, 1) := by decide +kernel
theorem dX0_sum_44 : decode cX0_sum 44 = .ok (.iinc 3 1, 3) := by decide +kernel
theorem dX0_sum_47 : decode cX0_sum 47 = .ok (.goto (-43), 3) := by decide +kernel
theorem dX0_sum_50 : decode cX0_sum 50 = .ok (.iload_n 2, 1) := by decide +kernel
theorem dX0_sum_51 : decode cX0_sum 51 = .ok (.ireturn, 1) := by decide +kernel
theorem dX0_seekChange_0 : decode cX0_seekChange 0 = .ok (.aload_n 0, 1) := by decide +kernel
theorem dX0_seekChange_1 : decode cX0_seekChange 1 = .ok (.iconst (-1), 1) := by decide +kernel
theorem dX0_seekChange_2 : decode cX0_seekChange 2 = .ok (.putfield 105, 3) := by decide +kernel
theorem dX0_seekChange_5 : decode cX0_seekChange 5 = .ok (.aload_n 0, 1) := by decide +kernel
theorem dX0_seekChange_6 : decode cX0_seekChange 6 = .ok (.iconst (-1), 1) := by decide +kernel
theorem dX0_seekChange_7 : decode cX0_seekChange 7 = .ok (.putfield 108, 3) := by decide +kernel
theorem dX0_seekChange_10 : decode cX0_seekChange 10 = .ok (.aload_n 0, 1) := by decide +kernel
theorem dX0_seekChange_11 : decode cX0_seekChange 11 = .ok (.aload_n 0, 1) := by decide +kernel
theorem dX0_seekChange_12 : decode cX0_seekChange 12 = .ok (.iload_n 1, 1) := by decide +kernel
theorem dX0_seekChange_13 : decode cX0_seekChange 13 = .ok (.invokevirtual 111, 3) := by decide +kernel
theorem dX0_seekChange_16 : decode cX0_seekChange 16 = .ok (.putfield 114, 3) := by decide +kernel
theorem dX0_seekChange_19 : decode cX0_seekChange 19 = .ok (.iconst 0, 1) := by decide +kernel
theorem dX0_seekChange_20 : decode cX0_seekChange 20 = .ok (.istore_n 2, 1) := by decide +kernel
theorem dX0_seekChange_21 : decode cX0_seekChange 21 = .ok (.iload_n 2, 1) := by decide +kernel
theorem dX0_seekChange_22 : decode cX0_seekChange 22 = .ok (.aload_n 0, 1) := by decide +kernel
theorem dX0_seekChange_23 : decode cX0_seekChange 23 = .ok (.getfield 26, 3) := by decide +kernel
theorem dX0_seekChange_26 : decode cX0_seekChange 26 = .ok (.getfield 38, 3) := by decide +kernel
theorem dX0_seekChange_29 : decode cX0_seekChange 29 = .ok (.if_icmp .ge 74, 3) := by decide +kernel
theorem dX0_seekChange_32 : decode cX0_seekChange 32 = .ok (.iload_n 2, 1) := by decide +kernel
theorem dX0_seekChange_33 : decode cX0_seekChange 33 = .ok (.iconst 1, 1) := by decide +kernel
theorem dX0_seekChange_34 : decode cX0_seekChange 34 = .ok (.iadd, 1) := by decide +kernel
theorem dX0_seekChange_35 : decode cX0_seekChange 35 = .ok (.istore_n 3, 1) := by decide +kernel
theorem dX0_seekChange_36 : decode cX0_seekChange 36 = .ok (.iload_n 3, 1) := by decide +kernel
theorem dX0_seekChange_37 : decode cX0_seekChange 37 = .ok (.aload_n 0, 1) := by decide +kernel
theorem dX0_seekChange_38 : decode cX0_seekChange 38 = .ok (.getfield 26, 3) := by decide +kernel
theorem dX0_seekChange_41 : decode cX0_seekChange 41 = .ok (.getfield 38, 3) := by decide +kernel
theorem dX0_seekChange_44 : decode cX0_seekChange 44 = .ok (.if_icmp .ge 53, 3) := by decide +kernel
theorem dX0_seekChange_47 : decode cX0_seekChange 47 = .ok (.aload_n 0, 1) := by decide +kernel
theorem dX0_seekChange_48 : decode cX0_seekChange 48 = .ok (.iload_n 2, 1) := by decide +kernel
theorem dX0_seekChange_49 : decode cX0_seekChange 49 = .ok (.iload_n 3, 1) := by decide +kernel
theorem dX0_seekChange_50 : decode cX0_seekChange 50 = .ok (.invokevirtual 117, 3) := by decide +kernel
theorem dX0_seekChange_53 : decode cX0_seekChange 53 = .ok (.aload_n 0, 1) := by decide +kernel
theorem dX0_seekChange_54 : decode cX0_seekChange 54 = .ok (.iload_n 1, 1) := by decide +kernel
theorem dX0_seekChange_55 : decode cX0_seekChange 55 = .ok (.invokevirtual 111, 3) := by decide +kernel
theorem dX0_seekChange_58 : decode cX0_seekChange 58 = .ok (.istore 4, 2) := by decide +kernel
theorem dX0_seekChange_60 : decode cX0_seekChange 60 = .ok (.aload_n 0, 1) := by decide +kernel
theorem dX0_seekChange_61 : decode cX0_seekChange 61 = .ok (.iload_n 2, 1) := by decide +kernel
theorem dX0_seekChange_62 : decode cX0_seekChange 62 = .ok (.iload_n 3, 1) := by decide +kernel
theorem dX0_seekChange_63 : decode cX0_seekChange 63 = .ok (.invokevirtual 117, 3) := by decide +kernel
theorem dX0_seekChange_66 : decode cX0_seekChange 66 = .ok (.iload 4, 2) := by decide +kernel
theorem dX0_seekChange_68 : decode cX0_seekChange 68 = .ok (.aload_n 0, 1) := by decide +kernel
theorem dX0_seekChange_69 : decode cX0_seekChange 69 = .ok (.getfield 114, 3) := by decide +kernel
theorem dX0_seekChange_72 : decode cX0_seekChange 72 = .ok (.if_icmp .ge 19, 3) := by decide +kernel
theorem dX0_seekChange_75 : decode cX0_seekChange 75 = .ok (.aload_n 0, 1) := by decide +kernel
theorem dX0_seekChange_76 : decode cX0_seekChange 76 = .ok (.iload_n 2, 1) := by decide +kernel
theorem dX0_seekChange_77 : decode cX0_seekChange 77 = .ok (.putfield 105, 3) := by decide +kernel
theorem dX0_seekChange_80 : decode cX0_seekChange 80 = .ok (.aload_n 0, 1) := by decide +kernel
theorem dX0_seekChange_81 : decode cX0_seekChange 81 = .ok (.iload_n 3, 1) := by decide +kernel
theorem dX0_seekChange_82 : decode cX0_seekChange 82 = .ok (.putfield 108, 3) := by decide +kernel
theorem dX0_seekChange_85 : decode cX0_seekChange 85 = .ok (.aload_n 0, 1) := by decide +kernel
theorem dX0_seekChange_86 : decode cX0_seekChange 86 = .ok (.iload 4, 2) := by decide +kernel
theorem dX0_seekChange_88 : decode cX0_seekChange 88 = .ok (.putfield 114, 3) := by decide +kernel
theorem dX0_seekChange_91 : decode cX0_seekChange 91 = .ok (.iinc 3 1, 3) := by decide +kernel
theorem dX0_seekChange_94 : decode cX0_seekChange 94 = .ok (.goto (-58), 3) := by decide +kernel
theorem dX0_seekChange_97 : decode cX0_seekChange 97 = .ok (.iinc 2 1, 3) := by decide +kernel
theorem dX0_seekChange_100 : decode cX0_seekChange 100 = .ok (.goto (-79), 3) := by decide +kernel
theorem dX0_seekChange_103 : decode cX0_seekChange 103 = .ok (.return_, 1) := by decide +kernel
theorem dX1_init_0 : decode cX1_init 0 = .ok (.aload_n 0, 1) := by decide +kernel
theorem dX1_init_1 : decode cX1_init 1 = .ok (.invokespecial 3, 3) := by decide +kernel
theorem dX1_init_4 : decode cX1_init 4 = .ok (.aload_n 0, 1) := by decide +kernel
theorem dX1_init_5 : decode cX1_init 5 = .ok (.bipush 12, 2) := by decide +kernel
theorem dX1_init_7 : decode cX1_init 7 = .ok (.newarray .int, 2) := by decide +kernel
theorem dX1_init_9 : decode cX1_init 9 = .ok (.putfield 9, 3) := by decide +kernel
theorem dX1_init_12 : decode cX1_init 12 = .ok (.aload_n 0, 1) := by decide +kernel
theorem dX1_init_13 : decode cX1_init 13 = .ok (.bipush 12, 2) := by decide +kernel
theorem dX1_init_15 : decode cX1_init 15 = .ok (.newarray .int, 2) := by decide +kernel
theorem dX1_init_17 : decode cX1_init 17 = .ok (.putfield 15, 3) := by decide +kernel
theorem dX1_init_20 : decode cX1_init 20 = .ok (.aload_n 0, 1) := by decide +kernel
theorem dX1_init_21 : decode cX1_init 21 = .ok (.bipush 12, 2) := by decide +kernel
theorem dX1_init_23 : decode cX1_init 23 = .ok (.newarray .int, 2) := by decide +kernel
theorem dX1_init_25 : decode cX1_init 25 = .ok (.putfield 18, 3) := by decide +kernel
theorem dX1_init_28 : decode cX1_init 28 = .ok (.aload_n 0, 1) := by decide +kernel
theorem dX1_init_29 : decode cX1_init 29 = .ok (.aload_n 1, 1) := by decide +kernel
theorem dX1_init_30 : decode cX1_init 30 = .ok (.putfield 21, 3) := by decide +kernel
theorem dX1_init_33 : decode cX1_init 33 = .ok (.aload_n 0, 1) := by decide +kernel
theorem dX1_init_34 : decode cX1_init 34 = .ok (.aload_n 2, 1) := by decide +kernel
theorem dX1_init_35 : decode cX1_init 35 = .ok (.putfield 25, 3) := by decide +kernel
theorem dX1_init_38 : decode cX1_init 38 = .ok (.aload_n 0, 1) := by decide +kernel
theorem dX1_init_39 : decode cX1_init 39 = .ok (.aload_n 3, 1) := by decide +kernel
theorem dX1_init_40 : decode cX1_init 40 = .ok (.putfield 29, 3) := by decide +kernel
theorem dX1_init_43 : decode cX1_init 43 = .ok (.return_, 1) := by decide +kernel
theorem dX1_search_0 : decode cX1_search 0 = .ok (.aload_n 0, 1) := by decide +kernel
theorem dX1_search_1 : decode cX1_search 1 = .ok (.iload_n 1, 1) := by decide +kernel
theorem dX1_search_2 : decode cX1_search 2 = .ok (.iload_n 2, 1) := by decide +kernel
theorem dX1_search_3 : decode cX1_search 3 = .ok (.invokevirtual 33, 3) := by decide +kernel
theorem dX1_search_6 : decode cX1_search 6 = .ok (.aload_n 0, 1) := by decide +kernel
theorem dX1_search_7 : decode cX1_search 7 = .ok (.ldc 37, 2) := by decide +kernel
theorem dX1_search_9 : decode cX1_search 9 = .ok (.putfield 38, 3) := by decide +kernel
theorem dX1_search_12 : decode cX1_search 12 = .ok (.aload_n 0, 1) := by decide +kernel
theorem dX1_search_13 : decode cX1_search 13 = .ok (.iconst 0, 1) := by decide +kernel
theorem dX1_search_14 : decode cX1_search 14 = .ok (.iconst 0, 1) := by decide +kernel
theorem dX1_search_15 : decode cX1_search 15 = .ok (.invokevirtual 42, 3) := by decide +kernel
theorem dX1_search_18 : decode cX1_search 18 = .ok (.iconst 0, 1) := by decide +kernel
theorem dX1_search_19 : decode cX1_search 19 = .ok (.istore_n 3, 1) := by decide +kernel
theorem dX1_search_20 : decode cX1_search 20 = .ok (.iload_n 3, 1) := by decide +kernel
theorem dX1_search_21 : decode cX1_search 21 = .ok (.aload_n 0, 1) := by decide +kernel
theorem dX1_search_22 : decode cX1_search 22 = .ok (.getfield 21, 3) := by decide +kernel
theorem dX1_search_25 : decode cX1_search 25 = .ok (.getfield 45, 3) := by decide +kernel
theorem dX1_search_28 : decode cX1_search 28 = .ok (.if_icmp .ge 17, 3) := by decide +kernel
theorem dX1_search_31 : decode cX1_search 31 = .ok (.aload_n 0, 1) := by decide +kernel
theorem dX1_search_32 : decode cX1_search 32 = .ok (.iconst 1, 1) := by decide +kernel
theorem dX1_search_33 : decode cX1_search 33 = .ok (.iload_n 3, 1) := by decide +kernel
theorem dX1_search_34 : decode cX1_search 34 = .ok (.ishl, 1) := by decide +kernel
theorem dX1_search_35 : decode cX1_search 35 = .ok (.iconst 1, 1) := by decide +kernel
theorem dX1_search_36 : decode cX1_search 36 = .ok (.invokevirtual 42, 3) := by decide +kernel
theorem dX1_search_39 : decode cX1_search 39 = .ok (.iinc 3 1, 3) := by decide +kernel
theorem dX1_search_42 : decode cX1_search 42 = .ok (.goto (-22), 3) := by decide +kernel
theorem dX1_search_45 : decode cX1_search 45 = .ok (.iconst 0, 1) := by decide +kernel
theorem dX1_search_46 : decode cX1_search 46 = .ok (.istore_n 3, 1) := by decide +kernel
theorem dX1_search_47 : decode cX1_search 47 = .ok (.iload_n 3, 1) := by decide +kernel
theorem dX1_search_48 : decode cX1_search 48 = .ok (.aload_n 0, 1) := by decide +kernel
theorem dX1_search_49 : decode cX1_search 49 = .ok (.getfield 21, 3) := by decide +kernel
theorem dX1_search_52 : decode cX1_search 52 = .ok (.getfield 45, 3) := by decide +kernel
theorem dX1_search_55 : decode cX1_search 55 = .ok (.if_icmp .ge 37, 3) := by decide +kernel
theorem dX1_search_58 : decode cX1_search 58 = .ok (.iconst 0, 1) := by decide +kernel
theorem dX1_search_59 : decode cX1_search 59 = .ok (.istore 4, 2) := by decide +kernel
theorem dX1_search_61 : decode cX1_search 61 = .ok (.iload 4, 2) := by decide +kernel
theorem dX1_search_63 : decode cX1_search 63 = .ok (.iload_n 3, 1) := by decide +kernel
theorem dX1_search_64 : decode cX1_search 64 = .ok (.if_icmp .ge 22, 3) := by decide +kernel
theorem dX1_search_67 : decode cX1_search 67 = .ok (.aload_n 0, 1) := by decide +kernel
theorem dX1_search_68 : decode cX1_search 68 = .ok (.iconst 1, 1) := by decide +kernel
theorem dX1_search_69 : decode cX1_search 69 = .ok (.iload_n 3, 1) := by decide +kernel
theorem dX1_search_70 : decode cX1_search 70 = .ok (.ishl, 1) := by decide +kernel
theorem dX1_search_71 : decode cX1_search 71 = .ok (.iconst 1, 1) := by decide +kernel
theorem dX1_search_72 : decode cX1_search 72 = .ok (.iload 4, 2) := by decide +kernel
theorem dX1_search_74 : decode cX1_search 74 = .ok (.ishl, 1) := by decide +kernel
theorem dX1_search_75 : decode cX1_search 75 = .ok (.ior, 1) := by decide +kernel
theorem dX1_search_76 : decode cX1_search 76 = .ok (.iconst 2, 1) := by decide +kernel
theorem dX1_search_77 : decode cX1_search 77 = .ok (.invokevirtual 42, 3) := by decide +kernel
theorem dX1_search_80 : decode cX1_search 80 = .ok (.iinc 4 1, 3) := by decide +kernel
theorem dX1_search_83 : decode cX1_search 83 = .ok (.goto (-22), 3) := by decide +kernel
theorem dX1_search_86 : decode cX1_search 86 = .ok (.iinc 3 1, 3) := by decide +kernel
theorem dX1_search_89 : decode cX1_search 89 = .ok (.goto (-42), 3) := by decide +kernel
theorem dX1_search_92 : decode cX1_search 92 = .ok (.iconst 0, 1) := by decide +kernel
theorem dX1_search_93 : decode cX1_search 93 = .ok (.istore_n 3, 1) := by decide +kernel
theorem dX1_search_94 : decode cX1_search 94 = .ok (.iload_n 3, 1) := by decide +kernel
theorem dX1_search_95 : decode cX1_search 95 = .ok (.aload_n 0, 1) := by decide +kernel
theorem dX1_search_96 : decode cX1_search 96 = .ok (.getfield 21, 3) := by decide +kernel
theorem dX1_search_99 : decode cX1_search 99 = .ok (.getfield 45, 3) := by decide +kernel
theorem dX1_search_102 : decode cX1_search 102 = .ok (.if_icmp .ge 58, 3) := by decide +kernel
theorem dX1_search_105 : decode cX1_search 105 = .ok (.iconst 0, 1) := by decide +kernel
theorem dX1_search_106 : decode cX1_search 106 = .ok (.istore 4, 2) := by decide +kernel
theorem dX1_search_108 : decode cX1_search 108 = .ok (.iload 4, 2) := by decide +kernel
theorem dX1_search_110 : decode cX1_search 110 = .ok (.iload_n 3, 1) := by decide +kernel
theorem dX1_search_111 : decode cX1_search 111 = .ok (.if_icmp .ge 43, 3) := by decide +kernel
theorem dX1_search_114 : decode cX1_search 114 = .ok (.iconst 0, 1) := by decide +kernel
theorem dX1_search_115 : decode cX1_search 115 = .ok (.istore 5, 2) := by decide +kernel
theorem dX1_search_117 : decode cX1_search 117 = .ok (.iload 5, 2) := by decide +kernel
theorem dX1_search_119 : decode cX1_search 119 = .ok (.iload 4, 2) := by decide +kernel
theorem dX1_search_121 : decode cX1_search 121 = .ok (.if_icmp .ge 27, 3) := by decide +kernel
theorem dX1_search_124 : decode cX1_search 124 = .ok (.aload_n 0, 1) := by decide +kernel
theorem dX1_search_125 : decode cX1_search 125 = .ok (.iconst 1, 1) := by decide +kernel
theorem dX1_search_126 : decode cX1_search 126 = .ok (.iload_n 3, 1) := by decide +kernel
theorem dX1_search_127 : decode cX1_search 127 = .ok (.ishl, 1) := by decide +kernel
theorem dX1_search_128 : decode cX1_search 128 = .ok (.iconst 1, 1) := by decide +kernel
theorem dX1_search_129 : decode cX1_search 129 = .ok (.iload 4, 2) := by decide +kernel
theorem dX1_search_131 : decode cX1_search 131 = .ok (.ishl, 1) := by decide +kernel
theorem dX1_search_132 : decode cX1_search 132 = .ok (.ior, 1) := by decide +kernel
theorem dX1_search_133 : decode cX1_search 133 = .ok (.iconst 1, 1) := by decide +kernel
theorem dX1_search_134 : decode cX1_search 134 = .ok (.iload 5, 2) := by decide +kernel
theorem dX1_search_136 : decode cX1_search 136 = .ok (.ishl, 1) := by decide +kernel
theorem dX1_search_137 : decode cX1_search 137 = .ok (.ior, 1) := by decide +kernel
theorem dX1_search_138 : decode cX1_search 138 = .ok (.iconst 3, 1) := by decide +kernel
theorem dX1_search_139 : decode cX1_search 139 = .ok (.invokevirtual 42, 3) := by decide +kernel
theorem dX1_search_142 : decode cX1_search 142 = .ok (.iinc 5 1, 3) := by decide +kernel
theorem dX1_search_145 : decode cX1_search 145 = .ok (.goto (-28), 3) := by decide +kernel
theorem dX1_search_148 : decode cX1_search 148 = .ok (.iinc 4 1, 3) := by decide +kernel
theorem dX1_search_151 : decode cX1_search 151 = .ok (.goto (-43), 3) := by decide +kernel
theorem dX1_search_154 : decode cX1_search 154 = .ok (.iinc 3 1, 3) := by decide +kernel
theorem dX1_search_157 : decode cX1_search 157 = .ok (.goto (-63), 3) := by decide +kernel
theorem dX1_search_160 : decode cX1_search 160 = .ok (.return_, 1) := by decide +kernel
theorem dX1_loadRows_0 : decode cX1_loadRows 0 = .ok (.aload_n 0, 1) := by decide +kernel
theorem dX1_loadRows_1 : decode cX1_loadRows 1 = .ok (.getfield 9, 3) := by decide +kernel
theorem dX1_loadRows_4 : decode cX1_loadRows 4 = .ok (.iconst (-1), 1) := by decide +kernel
theorem dX1_loadRows_5 : decode cX1_loadRows 5 = .ok (.invokestatic 50, 3) := by decide +kernel
theorem dX1_loadRows_8 : decode cX1_loadRows 8 = .ok (.aload_n 0, 1) := by decide +kernel
theorem dX1_loadRows_9 : decode cX1_loadRows 9 = .ok (.iconst 0, 1) := by decide +kernel
theorem dX1_loadRows_10 : decode cX1_loadRows 10 = .ok (.putfield 56, 3) := by decide +kernel
theorem dX1_loadRows_13 : decode cX1_loadRows 13 = .ok (.iconst 0, 1) := by decide +kernel
theorem dX1_loadRows_14 : decode cX1_loadRows 14 = .ok (.istore_n 3, 1) := by decide +kernel
theorem dX1_loadRows_15 : decode cX1_loadRows 15 = .ok (.iload_n 3, 1) := by decide +kernel
theorem dX1_loadRows_16 : decode cX1_loadRows 16 = .ok (.aload_n 0, 1) := by decide +kernel
theorem dX1_loadRows_17 : decode cX1_loadRows 17 = .ok (.getfield 29, 3) := by decide +kernel
theorem dX1_loadRows_20 : decode cX1_loadRows 20 = .ok (.getfield 59, 3) := by decide +kernel
theorem dX1_loadRows_23 : decode cX1_loadRows 23 = .ok (.if_icmp .ge 64, 3) := by decide +kernel
theorem dX1_loadRows_26 : decode cX1_loadRows 26 = .ok (.aload_n 0, 1) := by decide +kernel
theorem dX1_loadRows_27 : decode cX1_loadRows 27 = .ok (.getfield 29, 3) := by decide +kernel
theorem dX1_loadRows_30 : decode cX1_loadRows 30 = .ok (.getfield 64, 3) := by decide +kernel
theorem dX1_loadRows_33 : decode cX1_loadRows 33 = .ok (.iload_n 3, 1) := by decide +kernel
theorem dX1_loadRows_34 : decode cX1_loadRows 34 = .ok (.iaload, 1) := by decide +kernel
theorem dX1_loadRows_35 : decode cX1_loadRows 35 = .ok (.istore 4, 2) := by decide +kernel
theorem dX1_loadRows_37 : decode cX1_loadRows 37 = .ok (.aload_n 0, 1) := by decide +kernel
theorem dX1_loadRows_38 : decode cX1_loadRows 38 = .ok (.iload_n 3, 1) := by decide +kernel
theorem dX1_loadRows_39 : decode cX1_loadRows 39 = .ok (.iload_n 1, 1) := by decide +kernel
theorem dX1_loadRows_40 : decode cX1_loadRows 40 = .ok (.if_icmp .ne 7, 3) := by decide +kernel
theorem dX1_loadRows_43 : decode cX1_loadRows 43 = .ok (.iload_n 2, 1) := by decide +kernel
theorem dX1_loadRows_44 : decode cX1_loadRows 44 = .ok (.goto 12, 3) := by decide +kernel
theorem dX1_loadRows_47 : decode cX1_loadRows 47 = .ok (.aload_n 0, 1) := by decide +kernel
theorem dX1_loadRows_48 : decode cX1_loadRows 48 = .ok (.getfield 29, 3) := by decide +kernel
theorem dX1_loadRows_51 : decode cX1_loadRows 51 = .ok (.getfield 67, 3) := by decide +kernel
theorem dX1_loadRows_54 : decode cX1_loadRows 54 = .ok (.iload_n 3, 1) := by decide +kernel
theorem dX1_loadRows_55 : decode cX1_loadRows 55 = .ok (.iaload, 1) := by decide +kernel
theorem dX1_loadRows_56 : decode cX1_loadRows 56 = .ok (.putfield 56, 3) := by decide +kernel
theorem dX1_loadRows_59 : decode cX1_loadRows 59 = .ok (.aload_n 0, 1) := by decide +kernel
theorem dX1_loadRows_60 : decode cX1_loadRows 60 = .ok (.getfield 9, 3) := by decide +kernel
theorem dX1_loadRows_63 : decode cX1_loadRows 63 = .ok (.iload 4, 2) := by decide +kernel
theorem dX1_loadRows_65 : decode cX1_loadRows 65 = .ok (.iaload, 1) := by decide +kernel
theorem dX1_loadRows_66 : decode cX1_loadRows 66 = .ok (.iconst (-1), 1) := by decide +kernel
theorem dX1_loadRows_67 : decode cX1_loadRows 67 = .ok (.if_icmp .ne 14, 3) := by decide +kernel
theorem dX1_loadRows_70 : decode cX1_loadRows 70 = .ok (.aload_n 0, 1) := by decide +kernel
theorem dX1_loadRows_71 : decode cX1_loadRows 71 = .ok (.getfield 9, 3) := by decide +kernel
theorem dX1_loadRows_74 : decode cX1_loadRows 74 = .ok (.iload 4, 2) := by decide +kernel
theorem dX1_loadRows_76 : decode cX1_loadRows 76 = .ok (.aload_n 0, 1) := by decide +kernel
theorem dX1_loadRows_77 : decode cX1_loadRows 77 = .ok (.getfield 56, 3) := by decide +kernel
theorem dX1_loadRows_80 : decode cX1_loadRows 80 = .ok (.iastore, 1) := by decide +kernel
theorem dX1_loadRows_81 : decode cX1_loadRows 81 = .ok (.iinc 3 1, 3) := by decide +kernel
theorem dX1_loadRows_84 : decode cX1_loadRows 84 = .ok (.goto (-69), 3) := by decide +kernel
theorem dX1_loadRows_87 : decode cX1_loadRows 87 = .ok (.return_, 1) := by decide +kernel
theorem dX1_tryHeap_0 : decode cX1_tryHeap 0 = .ok (.iconst 2, 1) := by decide +kernel
theorem dX1_tryHeap_1 : decode cX1_tryHeap 1 = .ok (.iload_n 2, 1) := by decide +kernel
theorem dX1_tryHeap_2 : decode cX1_tryHeap 2 = .ok (.imul, 1) := by decide +kernel
theorem dX1_tryHeap_3 : decode cX1_tryHeap 3 = .ok (.aload_n 0, 1) := by decide +kernel
theorem dX1_tryHeap_4 : decode cX1_tryHeap 4 = .ok (.getfield 38, 3) := by decide +kernel
theorem dX1_tryHeap_7 : decode cX1_tryHeap 7 = .ok (.if_icmp .le 4, 3) := by decide +kernel
theorem dX1_tryHeap_10 : decode cX1_tryHeap 10 = .ok (.return_, 1) := by decide +kernel
theorem dX1_tryHeap_11 : decode cX1_tryHeap 11 = .ok (.aload_n 0, 1) := by decide +kernel
theorem dX1_tryHeap_12 : decode cX1_tryHeap 12 = .ok (.getfield 25, 3) := by decide +kernel
theorem dX1_tryHeap_15 : decode cX1_tryHeap 15 = .ok (.iload_n 1, 1) := by decide +kernel
theorem dX1_tryHeap_16 : decode cX1_tryHeap 16 = .ok (.invokevirtual 70, 3) := by decide +kernel
theorem dX1_tryHeap_19 : decode cX1_tryHeap 19 = .ok (.iconst 0, 1) := by decide +kernel
theorem dX1_tryHeap_20 : decode cX1_tryHeap 20 = .ok (.istore_n 3, 1) := by decide +kernel
theorem dX1_tryHeap_21 : decode cX1_tryHeap 21 = .ok (.iload_n 3, 1) := by decide +kernel
theorem dX1_tryHeap_22 : decode cX1_tryHeap 22 = .ok (.aload_n 0, 1) := by decide +kernel
theorem dX1_tryHeap_23 : decode cX1_tryHeap 23 = .ok (.getfield 21, 3) := by decide +kernel
theorem dX1_tryHeap_26 : decode cX1_tryHeap 26 = .ok (.getfield 76, 3) := by decide +kernel
theorem dX1_tryHeap_29 : decode cX1_tryHeap 29 = .ok (.if_icmp .ge 22, 3) := by decide +kernel
theorem dX1_tryHeap_32 : decode cX1_tryHeap 32 = .ok (.aload_n 0, 1) := by decide +kernel
theorem dX1_tryHeap_33 : decode cX1_tryHeap 33 = .ok (.iload_n 3, 1) := by decide +kernel
theorem dX1_tryHeap_34 : decode cX1_tryHeap 34 = .ok (.aload_n 0, 1) := by decide +kernel
theorem dX1_tryHeap_35 : decode cX1_tryHeap 35 = .ok (.getfield 25, 3) := by decide +kernel
theorem dX1_tryHeap_38 : decode cX1_tryHeap 38 = .ok (.iload_n 3, 1) := by decide +kernel
theorem dX1_tryHeap_39 : decode cX1_tryHeap 39 = .ok (.invokevirtual 78, 3) := by decide +kernel
theorem dX1_tryHeap_42 : decode cX1_tryHeap 42 = .ok (.invokevirtual 82, 3) := by decide +kernel
theorem dX1_tryHeap_45 : decode cX1_tryHeap 45 = .ok (.iinc 3 1, 3) := by decide +kernel
theorem dX1_tryHeap_48 : decode cX1_tryHeap 48 = .ok (.goto (-27), 3) := by decide +kernel
theorem dX1_tryHeap_51 : decode cX1_tryHeap 51 = .ok (.aload_n 0, 1) := by decide +kernel
theorem dX1_tryHeap_52 : decode cX1_tryHeap 52 = .ok (.invokevirtual 85, 3) := by decide +kernel
theorem dX1_tryHeap_55 : decode cX1_tryHeap 55 = .ok (.iconst 2, 1) := by decide +kernel
theorem dX1_tryHeap_56 : decode cX1_tryHeap 56 = .ok (.iload_n 2, 1) := by decide +kernel
theorem dX1_tryHeap_57 : decode cX1_tryHeap 57 = .ok (.imul, 1) := by decide +kernel
theorem dX1_tryHeap_58 : decode cX1_tryHeap 58 = .ok (.aload_n 0, 1) := by decide +kernel
theorem dX1_tryHeap_59 : decode cX1_tryHeap 59 = .ok (.getfield 88, 3) := by decide +kernel
theorem dX1_tryHeap_62 : decode cX1_tryHeap 62 = .ok (.invokestatic 91, 3) := by decide +kernel
theorem dX1_tryHeap_65 : decode cX1_tryHeap 65 = .ok (.iadd, 1) := by decide +kernel
theorem dX1_tryHeap_66 : decode cX1_tryHeap 66 = .ok (.istore_n 3, 1) := by decide +kernel
theorem dX1_tryHeap_67 : decode cX1_tryHeap 67 = .ok (.iload_n 3, 1) := by decide +kernel
theorem dX1_tryHeap_68 : decode cX1_tryHeap 68 = .ok (.aload_n 0, 1) := by decide +kernel
theorem dX1_tryHeap_69 : decode cX1_tryHeap 69 = .ok (.getfield 38, 3) := by decide +kernel
theorem dX1_tryHeap_72 : decode cX1_tryHeap 72 = .ok (.if_icmp .ge 12, 3) := by decide +kernel
theorem dX1_tryHeap_75 : decode cX1_tryHeap 75 = .ok (.aload_n 0, 1) := by decide +kernel
theorem dX1_tryHeap_76 : decode cX1_tryHeap 76 = .ok (.iload_n 1, 1) := by decide +kernel
theorem dX1_tryHeap_77 : decode cX1_tryHeap 77 = .ok (.iload_n 3, 1) := by decide +kernel
theorem dX1_tryHeap_78 : decode cX1_tryHeap 78 = .ok (.invokevirtual 96, 3) := by decide +kernel
theorem dX1_tryHeap_81 : decode cX1_tryHeap 81 = .ok (.goto 54, 3) := by decide +kernel
theorem dX1_tryHeap_84 : decode cX1_tryHeap 84 = .ok (.iload_n 3, 1) := by decide +kernel
theorem dX1_tryHeap_85 : decode cX1_tryHeap 85 = .ok (.aload_n 0, 1) := by decide +kernel
theorem dX1_tryHeap_86 : decode cX1_tryHeap 86 = .ok (.getfield 38, 3) := by decide +kernel
theorem dX1_tryHeap_89 : decode cX1_tryHeap 89 = .ok (.if_icmp .ne 46, 3) := by decide +kernel
theorem dX1_tryHeap_92 : decode cX1_tryHeap 92 = .ok (.aload_n 0, 1) := by decide +kernel
theorem dX1_tryHeap_93 : decode cX1_tryHeap 93 = .ok (.dup, 1) := by decide +kernel
theorem dX1_tryHeap_94 : decode cX1_tryHeap 94 = .ok (.getfield 99, 3) := by decide +kernel
theorem dX1_tryHeap_97 : decode cX1_tryHeap 97 = .ok (.iconst 1, 1) := by decide +kernel
theorem dX1_tryHeap_98 : decode cX1_tryHeap 98 = .ok (.iadd, 1) := by decide +kernel
theorem dX1_tryHeap_99 : decode cX1_tryHeap 99 = .ok (.putfield 99, 3) := by decide +kernel
theorem dX1_tryHeap_102 : decode cX1_tryHeap 102 = .ok (.aload_n 0, 1) := by decide +kernel
theorem dX1_tryHeap_103 : decode cX1_tryHeap 103 = .ok (.dup, 1) := by decide +kernel
theorem dX1_tryHeap_104 : decode cX1_tryHeap 104 = .ok (.getfield 102, 3) := by decide +kernel
theorem dX1_tryHeap_107 : decode cX1_tryHeap 107 = .ok (.iload_n 1, 1) := by decide +kernel
theorem dX1_tryHeap_108 : decode cX1_tryHeap 108 = .ok (.iand, 1) := by decide +kernel
theorem dX1_tryHeap_109 : decode cX1_tryHeap 109 = .ok (.putfield 102, 3) := by decide +kernel
theorem dX1_tryHeap_112 : decode cX1_tryHeap 112 = .ok (.aload_n 0, 1) := by decide +kernel
theorem dX1_tryHeap_113 : decode cX1_tryHeap 113 = .ok (.dup, 1) := by decide +kernel
theorem dX1_tryHeap_114 : decode cX1_tryHeap 114 = .ok (.getfield 105, 3) := by decide +kernel
theorem dX1_tryHeap_117 : decode cX1_tryHeap 117 = .ok (.iload_n 1, 1) := by decide +kernel
theorem dX1_tryHeap_118 : decode cX1_tryHeap 118 = .ok (.ior, 1) := by decide +kernel
theorem dX1_tryHeap_119 : decode cX1_tryHeap 119 = .ok (.putfield 105, 3) := by decide +kernel
theorem dX1_tryHeap_122 : decode cX1_tryHeap 122 = .ok (.aload_n 0, 1) := by decide +kernel
theorem dX1_tryHeap_123 : decode cX1_tryHeap 123 = .ok (.dup, 1) := by decide +kernel
theorem dX1_tryHeap_124 : decode cX1_tryHeap 124 = .ok (.getfield 108, 3) := by decide +kernel
theorem dX1_tryHeap_127 : decode cX1_tryHeap 127 = .ok (.aload_n 0, 1) := by decide +kernel
theorem dX1_tryHeap_128 : decode cX1_tryHeap 128 = .ok (.getfield 88, 3) := by decide +kernel
theorem dX1_tryHeap_131 : decode cX1_tryHeap 131 = .ok (.iand, 1) := by decide +kernel
theorem dX1_tryHeap_132 : decode cX1_tryHeap 132 = .ok (.putfield 108, 3) := by decide +kernel
theorem dX1_tryHeap_135 : decode cX1_tryHeap 135 = .ok (.return_, 1) := by decide +kernel
theorem dX1_takeLeast_0 : decode cX1_takeLeast 0 = .ok (.aload_n 0, 1) := by decide +kernel
theorem dX1_takeLeast_1 : decode cX1_takeLeast 1 = .ok (.iload_n 2, 1) := by decide +kernel
theorem dX1_takeLeast_2 : decode cX1_takeLeast 2 = .ok (.putfield 38, 3) := by decide +kernel
theorem dX1_takeLeast_5 : decode cX1_takeLeast 5 = .ok (.aload_n 0, 1) := by decide +kernel
theorem dX1_takeLeast_6 : decode cX1_takeLeast 6 = .ok (.iload_n 1, 1) := by decide +kernel
theorem dX1_takeLeast_7 : decode cX1_takeLeast 7 = .ok (.putfield 111, 3) := by decide +kernel
theorem dX1_takeLeast_10 : decode cX1_takeLeast 10 = .ok (.aload_n 0, 1) := by decide +kernel
theorem dX1_takeLeast_11 : decode cX1_takeLeast 11 = .ok (.aload_n 0, 1) := by decide +kernel
theorem dX1_takeLeast_12 : decode cX1_takeLeast 12 = .ok (.getfield 114, 3) := by decide +kernel
theorem dX1_takeLeast_15 : decode cX1_takeLeast 15 = .ok (.putfield 117, 3) := by decide +kernel
theorem dX1_takeLeast_18 : decode cX1_takeLeast 18 = .ok (.aload_n 0, 1) := by decide +kernel
theorem dX1_takeLeast_19 : decode cX1_takeLeast 19 = .ok (.aload_n 0, 1) := by decide +kernel
theorem dX1_takeLeast_20 : decode cX1_takeLeast 20 = .ok (.getfield 88, 3) := by decide +kernel
theorem dX1_takeLeast_23 : decode cX1_takeLeast 23 = .ok (.putfield 120, 3) := by decide +kernel
theorem dX1_takeLeast_26 : decode cX1_takeLeast 26 = .ok (.aload_n 0, 1) := by decide +kernel
theorem dX1_takeLeast_27 : decode cX1_takeLeast 27 = .ok (.iconst 1, 1) := by decide +kernel
theorem dX1_takeLeast_28 : decode cX1_takeLeast 28 = .ok (.putfield 99, 3) := by decide +kernel
theorem dX1_takeLeast_31 : decode cX1_takeLeast 31 = .ok (.aload_n 0, 1) := by decide +kernel
theorem dX1_takeLeast_32 : decode cX1_takeLeast 32 = .ok (.iload_n 1, 1) := by decide +kernel
theorem dX1_takeLeast_33 : decode cX1_takeLeast 33 = .ok (.putfield 102, 3) := by decide +kernel
theorem dX1_takeLeast_36 : decode cX1_takeLeast 36 = .ok (.aload_n 0, 1) := by decide +kernel
theorem dX1_takeLeast_37 : decode cX1_takeLeast 37 = .ok (.iload_n 1, 1) := by decide +kernel
theorem dX1_takeLeast_38 : decode cX1_takeLeast 38 = .ok (.putfield 105, 3) := by decide +kernel
theorem dX1_takeLeast_41 : decode cX1_takeLeast 41 = .ok (.aload_n 0, 1) := by decide +kernel
theorem dX1_takeLeast_42 : decode cX1_takeLeast 42 = .ok (.aload_n 0, 1) := by decide +kernel
theorem dX1_takeLeast_43 : decode cX1_takeLeast 43 = .ok (.getfield 88, 3) := by decide +kernel
theorem dX1_takeLeast_46 : decode cX1_takeLeast 46 = .ok (.putfield 108, 3) := by decide +kernel
theorem dX1_takeLeast_49 : decode cX1_takeLeast 49 = .ok (.return_, 1) := by decide +kernel
theorem dX1_setSpan_0 : decode cX1_setSpan 0 = .ok (.aload_n 0, 1) := by decide +kernel
theorem dX1_setSpan_1 : decode cX1_setSpan 1 = .ok (.getfield 9, 3) := by decide +kernel
theorem dX1_setSpan_4 : decode cX1_setSpan 4 = .ok (.iload_n 1, 1) := by decide +kernel
theorem dX1_setSpan_5 : decode cX1_setSpan 5 = .ok (.iaload, 1) := by decide +kernel
theorem dX1_setSpan_6 : decode cX1_setSpan 6 = .ok (.istore_n 3, 1) := by decide +kernel
theorem dX1_setSpan_7 : decode cX1_setSpan 7 = .ok (.iload_n 3, 1) := by decide +kernel
theorem dX1_setSpan_8 : decode cX1_setSpan 8 = .ok (.iconst (-1), 1) := by decide +kernel
theorem dX1_setSpan_9 : decode cX1_setSpan 9 = .ok (.if_icmp .ne 39, 3) := by decide +kernel
theorem dX1_setSpan_12 : decode cX1_setSpan 12 = .ok (.aload_n 0, 1) := by decide +kernel
theorem dX1_setSpan_13 : decode cX1_setSpan 13 = .ok (.getfield 15, 3) := by decide +kernel
theorem dX1_setSpan_16 : decode cX1_setSpan 16 = .ok (.iload_n 1, 1) := by decide +kernel
theorem dX1_setSpan_17 : decode cX1_setSpan 17 = .ok (.iload_n 2, 1) := by decide +kernel
theorem dX1_setSpan_18 : decode cX1_setSpan 18 = .ok (.ldc 37, 2) := by decide +kernel
theorem dX1_setSpan_20 : decode cX1_setSpan 20 = .ok (.if_icmp .lt 8, 3) := by decide +kernel
theorem dX1_setSpan_23 : decode cX1_setSpan 23 = .ok (.ldc 123, 2) := by decide +kernel
theorem dX1_setSpan_25 : decode cX1_setSpan 25 = .ok (.goto 11, 3) := by decide +kernel
theorem dX1_setSpan_28 : decode cX1_setSpan 28 = .ok (.aload_n 0, 1) := by decide +kernel
theorem dX1_setSpan_29 : decode cX1_setSpan 29 = .ok (.getfield 56, 3) := by decide +kernel
theorem dX1_setSpan_32 : decode cX1_setSpan 32 = .ok (.iload_n 2, 1) := by decide +kernel
theorem dX1_setSpan_33 : decode cX1_setSpan 33 = .ok (.isub, 1) := by decide +kernel
theorem dX1_setSpan_34 : decode cX1_setSpan 34 = .ok (.iconst 1, 1) := by decide +kernel
theorem dX1_setSpan_35 : decode cX1_setSpan 35 = .ok (.iadd, 1) := by decide +kernel
theorem dX1_setSpan_36 : decode cX1_setSpan 36 = .ok (.iastore, 1) := by decide +kernel
theorem dX1_setSpan_37 : decode cX1_setSpan 37 = .ok (.aload_n 0, 1) := by decide +kernel
theorem dX1_setSpan_38 : decode cX1_setSpan 38 = .ok (.getfield 18, 3) := by decide +kernel
theorem dX1_setSpan_41 : decode cX1_setSpan 41 = .ok (.iload_n 1, 1) := by decide +kernel
theorem dX1_setSpan_42 : decode cX1_setSpan 42 = .ok (.ldc 37, 2) := by decide +kernel
theorem dX1_setSpan_44 : decode cX1_setSpan 44 = .ok (.iastore, 1) := by decide +kernel
theorem dX1_setSpan_45 : decode cX1_setSpan 45 = .ok (.goto 56, 3) := by decide +kernel
theorem dX1_setSpan_48 : decode cX1_setSpan 48 = .ok (.iload_n 2, 1) := by decide +kernel
theorem dX1_setSpan_49 : decode cX1_setSpan 49 = .ok (.ldc 37, 2) := by decide +kernel
theorem dX1_setSpan_51 : decode cX1_setSpan 51 = .ok (.if_icmp .lt 22, 3) := by decide +kernel
theorem dX1_setSpan_54 : decode cX1_setSpan 54 = .ok (.aload_n 0, 1) := by decide +kernel
theorem dX1_setSpan_55 : decode cX1_setSpan 55 = .ok (.getfield 15, 3) := by decide +kernel
theorem dX1_setSpan_58 : decode cX1_setSpan 58 = .ok (.iload_n 1, 1) := by decide +kernel
theorem dX1_setSpan_59 : decode cX1_setSpan 59 = .ok (.ldc 37, 2) := by decide +kernel
theorem dX1_setSpan_61 : decode cX1_setSpan 61 = .ok (.iastore, 1) := by decide +kernel
theorem dX1_setSpan_62 : decode cX1_setSpan 62 = .ok (.aload_n 0, 1) := by decide +kernel
theorem dX1_setSpan_63 : decode cX1_setSpan 63 = .ok (.getfield 18, 3) := by decide +kernel
theorem dX1_setSpan_66 : decode cX1_setSpan 66 = .ok (.iload_n 1, 1) := by decide +kernel
theorem dX1_setSpan_67 : decode cX1_setSpan 67 = .ok (.ldc 123, 2) := by decide +kernel
theorem dX1_setSpan_69 : decode cX1_setSpan 69 = .ok (.iastore, 1) := by decide +kernel
theorem dX1_setSpan_70 : decode cX1_setSpan 70 = .ok (.goto 31, 3) := by decide +kernel
theorem dX1_setSpan_73 : decode cX1_setSpan 73 = .ok (.aload_n 0, 1) := by decide +kernel
theorem dX1_setSpan_74 : decode cX1_setSpan 74 = .ok (.getfield 15, 3) := by decide +kernel
theorem dX1_setSpan_77 : decode cX1_setSpan 77 = .ok (.iload_n 1, 1) := by decide +kernel
theorem dX1_setSpan_78 : decode cX1_setSpan 78 = .ok (.iload_n 3, 1) := by decide +kernel
theorem dX1_setSpan_79 : decode cX1_setSpan 79 = .ok (.iload_n 2, 1) := by decide +kernel
theorem dX1_setSpan_80 : decode cX1_setSpan 80 = .ok (.isub, 1) := by decide +kernel
theorem dX1_setSpan_81 : decode cX1_setSpan 81 = .ok (.aload_n 0, 1) := by decide +kernel
theorem dX1_setSpan_82 : decode cX1_setSpan 82 = .ok (.getfield 124, 3) := by decide +kernel
theorem dX1_setSpan_85 : decode cX1_setSpan 85 = .ok (.isub, 1) := by decide +kernel
theorem dX1_setSpan_86 : decode cX1_setSpan 86 = .ok (.iastore, 1) := by decide +kernel
theorem dX1_setSpan_87 : decode cX1_setSpan 87 = .ok (.aload_n 0, 1) := by decide +kernel
theorem dX1_setSpan_88 : decode cX1_setSpan 88 = .ok (.getfield 18, 3) := by decide +kernel
theorem dX1_setSpan_91 : decode cX1_setSpan 91 = .ok (.iload_n 1, 1) := by decide +kernel
theorem dX1_setSpan_92 : decode cX1_setSpan 92 = .ok (.iload_n 3, 1) := by decide +kernel
theorem dX1_setSpan_93 : decode cX1_setSpan 93 = .ok (.iload_n 2, 1) := by decide +kernel
theorem dX1_setSpan_94 : decode cX1_setSpan 94 = .ok (.isub, 1) := by decide +kernel
theorem dX1_setSpan_95 : decode cX1_setSpan 95 = .ok (.aload_n 0, 1) := by decide +kernel
theorem dX1_setSpan_96 : decode cX1_setSpan 96 = .ok (.getfield 124, 3) := by decide +kernel
theorem dX1_setSpan_99 : decode cX1_setSpan 99 = .ok (.iadd, 1) := by decide +kernel
theorem dX1_setSpan_100 : decode cX1_setSpan 100 = .ok (.iastore, 1) := by decide +kernel
theorem dX1_setSpan_101 : decode cX1_setSpan 101 = .ok (.return_, 1) := by decide +kernel
theorem dX1_seekBegin_0 : decode cX1_seekBegin 0 = .ok (.aload_n 0, 1) := by decide +kernel
theorem dX1_seekBegin_1 : decode cX1_seekBegin 1 = .ok (.iconst 0, 1) := by decide +kernel
theorem dX1_seekBegin_2 : decode cX1_seekBegin 2 = .ok (.putfield 114, 3) := by decide +kernel
theorem dX1_seekBegin_5 : decode cX1_seekBegin 5 = .ok (.aload_n 0, 1) := by decide +kernel
theorem dX1_seekBegin_6 : decode cX1_seekBegin 6 = .ok (.aload_n 0, 1) := by decide +kernel
theorem dX1_seekBegin_7 : decode cX1_seekBegin 7 = .ok (.iconst 0, 1) := by decide +kernel
theorem dX1_seekBegin_8 : decode cX1_seekBegin 8 = .ok (.invokevirtual 127, 3) := by decide +kernel
theorem dX1_seekBegin_11 : decode cX1_seekBegin 11 = .ok (.putfield 88, 3) := by decide +kernel
theorem dX1_seekBegin_14 : decode cX1_seekBegin 14 = .ok (.iconst 0, 1) := by decide +kernel
theorem dX1_seekBegin_15 : decode cX1_seekBegin 15 = .ok (.istore_n 1, 1) := by decide +kernel
theorem dX1_seekBegin_16 : decode cX1_seekBegin 16 = .ok (.iload_n 1, 1) := by decide +kernel
theorem dX1_seekBegin_17 : decode cX1_seekBegin 17 = .ok (.aload_n 0, 1) := by decide +kernel
theorem dX1_seekBegin_18 : decode cX1_seekBegin 18 = .ok (.getfield 21, 3) := by decide +kernel
theorem dX1_seekBegin_21 : decode cX1_seekBegin 21 = .ok (.getfield 76, 3) := by decide +kernel
theorem dX1_seekBegin_24 : decode cX1_seekBegin 24 = .ok (.if_icmp .ge 41, 3) := by decide +kernel
theorem dX1_seekBegin_27 : decode cX1_seekBegin 27 = .ok (.aload_n 0, 1) := by decide +kernel
theorem dX1_seekBegin_28 : decode cX1_seekBegin 28 = .ok (.getfield 15, 3) := by decide +kernel
theorem dX1_seekBegin_31 : decode cX1_seekBegin 31 = .ok (.iload_n 1, 1) := by decide +kernel
theorem dX1_seekBegin_32 : decode cX1_seekBegin 32 = .ok (.iaload, 1) := by decide +kernel
theorem dX1_seekBegin_33 : decode cX1_seekBegin 33 = .ok (.ifCond .le 26, 3) := by decide +kernel
theorem dX1_seekBegin_36 : decode cX1_seekBegin 36 = .ok (.aload_n 0, 1) := by decide +kernel
theorem dX1_seekBegin_37 : decode cX1_seekBegin 37 = .ok (.getfield 15, 3) := by decide +kernel
theorem dX1_seekBegin_40 : decode cX1_seekBegin 40 = .ok (.iload_n 1, 1) := by decide +kernel
theorem dX1_seekBegin_41 : decode cX1_seekBegin 41 = .ok (.iaload, 1) := by decide +kernel
theorem dX1_seekBegin_42 : decode cX1_seekBegin 42 = .ok (.aload_n 0, 1) := by decide +kernel
theorem dX1_seekBegin_43 : decode cX1_seekBegin 43 = .ok (.getfield 56, 3) := by decide +kernel
theorem dX1_seekBegin_46 : decode cX1_seekBegin 46 = .ok (.if_icmp .gt 13, 3) := by decide +kernel
theorem dX1_seekBegin_49 : decode cX1_seekBegin 49 = .ok (.aload_n 0, 1) := by decide +kernel
theorem dX1_seekBegin_50 : decode cX1_seekBegin 50 = .ok (.aload_n 0, 1) := by decide +kernel
theorem dX1_seekBegin_51 : decode cX1_seekBegin 51 = .ok (.getfield 15, 3) := by decide +kernel
theorem dX1_seekBegin_54 : decode cX1_seekBegin 54 = .ok (.iload_n 1, 1) := by decide +kernel
theorem dX1_seekBegin_55 : decode cX1_seekBegin 55 = .ok (.iaload, 1) := by decide +kernel
theorem dX1_seekBegin_56 : decode cX1_seekBegin 56 = .ok (.invokevirtual 130, 3) := by decide +kernel
theorem dX1_seekBegin_59 : decode cX1_seekBegin 59 = .ok (.iinc 1 1, 3) := by decide +kernel
theorem dX1_seekBegin_62 : decode cX1_seekBegin 62 = .ok (.goto (-46), 3) := by decide +kernel
theorem dX1_seekBegin_65 : decode cX1_seekBegin 65 = .ok (.return_, 1) := by decide +kernel
theorem dX1_tryBegin_0 : decode cX1_tryBegin 0 = .ok (.aload_n 0, 1) := by decide +kernel
theorem dX1_tryBegin_1 : decode cX1_tryBegin 1 = .ok (.iload_n 1, 1) := by decide +kernel
theorem dX1_tryBegin_2 : decode cX1_tryBegin 2 = .ok (.invokevirtual 127, 3) := by decide +kernel
theorem dX1_tryBegin_5 : decode cX1_tryBegin 5 = .ok (.istore_n 2, 1) := by decide +kernel
theorem dX1_tryBegin_6 : decode cX1_tryBegin 6 = .ok (.iload_n 2, 1) := by decide +kernel
theorem dX1_tryBegin_7 : decode cX1_tryBegin 7 = .ok (.invokestatic 91, 3) := by decide +kernel
theorem dX1_tryBegin_10 : decode cX1_tryBegin 10 = .ok (.aload_n 0, 1) := by decide +kernel
theorem dX1_tryBegin_11 : decode cX1_tryBegin 11 = .ok (.getfield 88, 3) := by decide +kernel
theorem dX1_tryBegin_14 : decode cX1_tryBegin 14 = .ok (.invokestatic 91, 3) := by decide +kernel
theorem dX1_tryBegin_17 : decode cX1_tryBegin 17 = .ok (.isub, 1) := by decide +kernel
theorem dX1_tryBegin_18 : decode cX1_tryBegin 18 = .ok (.istore_n 3, 1) := by decide +kernel
theorem dX1_tryBegin_19 : decode cX1_tryBegin 19 = .ok (.iload_n 3, 1) := by decide +kernel
theorem dX1_tryBegin_20 : decode cX1_tryBegin 20 = .ok (.ifCond .lt 15, 3) := by decide +kernel
theorem dX1_tryBegin_23 : decode cX1_tryBegin 23 = .ok (.iload_n 3, 1) := by decide +kernel
theorem dX1_tryBegin_24 : decode cX1_tryBegin 24 = .ok (.ifCond .ne 21, 3) := by decide +kernel
theorem dX1_tryBegin_27 : decode cX1_tryBegin 27 = .ok (.iload_n 1, 1) := by decide +kernel
theorem dX1_tryBegin_28 : decode cX1_tryBegin 28 = .ok (.aload_n 0, 1) := by decide +kernel
theorem dX1_tryBegin_29 : decode cX1_tryBegin 29 = .ok (.getfield 114, 3) := by decide +kernel
theorem dX1_tryBegin_32 : decode cX1_tryBegin 32 = .ok (.if_icmp .ge 13, 3) := by decide +kernel
theorem dX1_tryBegin_35 : decode cX1_tryBegin 35 = .ok (.aload_n 0, 1) := by decide +kernel
theorem dX1_tryBegin_36 : decode cX1_tryBegin 36 = .ok (.iload_n 1, 1) := by decide +kernel
theorem dX1_tryBegin_37 : decode cX1_tryBegin 37 = .ok (.putfield 114, 3) := by decide +kernel
theorem dX1_tryBegin_40 : decode cX1_tryBegin 40 = .ok (.aload_n 0, 1) := by decide +kernel
theorem dX1_tryBegin_41 : decode cX1_tryBegin 41 = .ok (.iload_n 2, 1) := by decide +kernel
theorem dX1_tryBegin_42 : decode cX1_tryBegin 42 = .ok (.putfield 88, 3) := by decide +kernel
theorem dX1_tryBegin_45 : decode cX1_tryBegin 45 = .ok (.return_, 1) := by decide +kernel
theorem dX1_wrongAt_0 : decode cX1_wrongAt 0 = .ok (.iconst 0, 1) := by decide +kernel
theorem dX1_wrongAt_1 : decode cX1_wrongAt 1 = .ok (.istore_n 2, 1) := by decide +kernel
theorem dX1_wrongAt_2 : decode cX1_wrongAt 2 = .ok (.iconst 0, 1) := by decide +kernel
theorem dX1_wrongAt_3 : decode cX1_wrongAt 3 = .ok (.istore_n 3, 1) := by decide +kernel
theorem dX1_wrongAt_4 : decode cX1_wrongAt 4 = .ok (.iload_n 3, 1) := by decide +kernel
theorem dX1_wrongAt_5 : decode cX1_wrongAt 5 = .ok (.aload_n 0, 1) := by decide +kernel
theorem dX1_wrongAt_6 : decode cX1_wrongAt 6 = .ok (.getfield 21, 3) := by decide +kernel
theorem dX1_wrongAt_9 : decode cX1_wrongAt 9 = .ok (.getfield 76, 3) := by decide +kernel
theorem dX1_wrongAt_12 : decode cX1_wrongAt 12 = .ok (.if_icmp .ge 35, 3) := by decide +kernel
theorem dX1_wrongAt_15 : decode cX1_wrongAt 15 = .ok (.iload_n 1, 1) := by decide +kernel
theorem dX1_wrongAt_16 : decode cX1_wrongAt 16 = .ok (.aload_n 0, 1) := by decide +kernel
theorem dX1_wrongAt_17 : decode cX1_wrongAt 17 = .ok (.getfield 15, 3) := by decide +kernel
theorem dX1_wrongAt_20 : decode cX1_wrongAt 20 = .ok (.iload_n 3, 1) := by decide +kernel
theorem dX1_wrongAt_21 : decode cX1_wrongAt 21 = .ok (.iaload, 1) := by decide +kernel
theorem dX1_wrongAt_22 : decode cX1_wrongAt 22 = .ok (.if_icmp .lt 13, 3) := by decide +kernel
theorem dX1_wrongAt_25 : decode cX1_wrongAt 25 = .ok (.iload_n 1, 1) := by decide +kernel
theorem dX1_wrongAt_26 : decode cX1_wrongAt 26 = .ok (.aload_n 0, 1) := by decide +kernel
theorem dX1_wrongAt_27 : decode cX1_wrongAt 27 = .ok (.getfield 18, 3) := by decide +kernel
theorem dX1_wrongAt_30 : decode cX1_wrongAt 30 = .ok (.iload_n 3, 1) := by decide +kernel
theorem dX1_wrongAt_31 : decode cX1_wrongAt 31 = .ok (.iaload, 1) := by decide +kernel
theorem dX1_wrongAt_32 : decode cX1_wrongAt 32 = .ok (.if_icmp .le 9, 3) := by decide +kernel
theorem dX1_wrongAt_35 : decode cX1_wrongAt 35 = .ok (.iload_n 2, 1) := by decide +kernel
theorem dX1_wrongAt_36 : decode cX1_wrongAt 36 = .ok (.iconst 1, 1) := by decide +kernel
theorem dX1_wrongAt_37 : decode cX1_wrongAt 37 = .ok (.iload_n 3, 1) := by decide +kernel
theorem dX1_wrongAt_38 : decode cX1_wrongAt 38 = .ok (.ishl, 1) := by decide +kernel
theorem dX1_wrongAt_39 : decode cX1_wrongAt 39 = .ok (.ior, 1) := by decide +kernel
theorem dX1_wrongAt_40 : decode cX1_wrongAt 40 = .ok (.istore_n 2, 1) := by decide +kernel
theorem dX1_wrongAt_41 : decode cX1_wrongAt 41 = .ok (.iinc 3 1, 3) := by decide +kernel
theorem dX1_wrongAt_44 : decode cX1_wrongAt 44 = .ok (.goto (-40), 3) := by decide +kernel
theorem dX1_wrongAt_47 : decode cX1_wrongAt 47 = .ok (.iload_n 2, 1) := by decide +kernel
theorem dX1_wrongAt_48 : decode cX1_wrongAt 48 = .ok (.ireturn, 1) := by decide +kernel
theorem dX2_init_0 : decode cX2_init 0 = .ok (.aload_n 0, 1) := by decide +kernel
theorem dX2_init_1 : decode cX2_init 1 = .ok (.invokespecial 3, 3) := by decide +kernel
theorem dX2_init_4 : decode cX2_init 4 = .ok (.aload_n 0, 1) := by decide +kernel
theorem dX2_init_5 : decode cX2_init 5 = .ok (.bipush 12, 2) := by decide +kernel
theorem dX2_init_7 : decode cX2_init 7 = .ok (.newarray .int, 2) := by decide +kernel
theorem dX2_init_9 : decode cX2_init 9 = .ok (.putfield 9, 3) := by decide +kernel
theorem dX2_init_12 : decode cX2_init 12 = .ok (.aload_n 0, 1) := by decide +kernel
theorem dX2_init_13 : decode cX2_init 13 = .ok (.bipush 12, 2) := by decide +kernel
theorem dX2_init_15 : decode cX2_init 15 = .ok (.newarray .int, 2) := by decide +kernel
theorem dX2_init_17 : decode cX2_init 17 = .ok (.putfield 15, 3) := by decide +kernel
theorem dX2_init_20 : decode cX2_init 20 = .ok (.aload_n 0, 1) := by decide +kernel
theorem dX2_init_21 : decode cX2_init 21 = .ok (.aload_n 1, 1) := by decide +kernel
theorem dX2_init_22 : decode cX2_init 22 = .ok (.putfield 18, 3) := by decide +kernel
theorem dX2_init_25 : decode cX2_init 25 = .ok (.aload_n 0, 1) := by decide +kernel
theorem dX2_init_26 : decode cX2_init 26 = .ok (.aload_n 2, 1) := by decide +kernel
theorem dX2_init_27 : decode cX2_init 27 = .ok (.putfield 22, 3) := by decide +kernel
theorem dX2_init_30 : decode cX2_init 30 = .ok (.return_, 1) := by decide +kernel
theorem dX2_reset_0 : decode cX2_reset 0 = .ok (.aload_n 0, 1) := by decide +kernel
theorem dX2_reset_1 : decode cX2_reset 1 = .ok (.getfield 9, 3) := by decide +kernel
theorem dX2_reset_4 : decode cX2_reset 4 = .ok (.iconst 0, 1) := by decide +kernel
theorem dX2_reset_5 : decode cX2_reset 5 = .ok (.invokestatic 26, 3) := by decide +kernel
theorem dX2_reset_8 : decode cX2_reset 8 = .ok (.aload_n 0, 1) := by decide +kernel
theorem dX2_reset_9 : decode cX2_reset 9 = .ok (.iconst 0, 1) := by decide +kernel
theorem dX2_reset_10 : decode cX2_reset 10 = .ok (.putfield 32, 3) := by decide +kernel
theorem dX2_reset_13 : decode cX2_reset 13 = .ok (.return_, 1) := by decide +kernel
theorem dX2_light_0 : decode cX2_light 0 = .ok (.aload_n 0, 1) := by decide +kernel
theorem dX2_light_1 : decode cX2_light 1 = .ok (.getfield 22, 3) := by decide +kernel
theorem dX2_light_4 : decode cX2_light 4 = .ok (.iload_n 1, 1) := by decide +kernel
theorem dX2_light_5 : decode cX2_light 5 = .ok (.invokevirtual 36, 3) := by decide +kernel
theorem dX2_light_8 : decode cX2_light 8 = .ok (.iconst 0, 1) := by decide +kernel
theorem dX2_light_9 : decode cX2_light 9 = .ok (.istore_n 2, 1) := by decide +kernel
theorem dX2_light_10 : decode cX2_light 10 = .ok (.iload_n 2, 1) := by decide +kernel
theorem dX2_light_11 : decode cX2_light 11 = .ok (.aload_n 0, 1) := by decide +kernel
theorem dX2_light_12 : decode cX2_light 12 = .ok (.getfield 18, 3) := by decide +kernel
theorem dX2_light_15 : decode cX2_light 15 = .ok (.getfield 42, 3) := by decide +kernel
theorem dX2_light_18 : decode cX2_light 18 = .ok (.if_icmp .ge 57, 3) := by decide +kernel
theorem dX2_light_21 : decode cX2_light 21 = .ok (.aload_n 0, 1) := by decide +kernel
theorem dX2_light_22 : decode cX2_light 22 = .ok (.getfield 9, 3) := by decide +kernel
theorem dX2_light_25 : decode cX2_light 25 = .ok (.iload_n 2, 1) := by decide +kernel
theorem dX2_light_26 : decode cX2_light 26 = .ok (.iaload, 1) := by decide +kernel
theorem dX2_light_27 : decode cX2_light 27 = .ok (.ifCond .ne 20, 3) := by decide +kernel
theorem dX2_light_30 : decode cX2_light 30 = .ok (.aload_n 0, 1) := by decide +kernel
theorem dX2_light_31 : decode cX2_light 31 = .ok (.getfield 15, 3) := by decide +kernel
theorem dX2_light_34 : decode cX2_light 34 = .ok (.iload_n 2, 1) := by decide +kernel
theorem dX2_light_35 : decode cX2_light 35 = .ok (.aload_n 0, 1) := by decide +kernel
theorem dX2_light_36 : decode cX2_light 36 = .ok (.getfield 22, 3) := by decide +kernel
theorem dX2_light_39 : decode cX2_light 39 = .ok (.iload_n 2, 1) := by decide +kernel
theorem dX2_light_40 : decode cX2_light 40 = .ok (.invokevirtual 47, 3) := by decide +kernel
theorem dX2_light_43 : decode cX2_light 43 = .ok (.iastore, 1) := by decide +kernel
theorem dX2_light_44 : decode cX2_light 44 = .ok (.goto 25, 3) := by decide +kernel
theorem dX2_light_47 : decode cX2_light 47 = .ok (.aload_n 0, 1) := by decide +kernel
theorem dX2_light_48 : decode cX2_light 48 = .ok (.getfield 15, 3) := by decide +kernel
theorem dX2_light_51 : decode cX2_light 51 = .ok (.iload_n 2, 1) := by decide +kernel
theorem dX2_light_52 : decode cX2_light 52 = .ok (.aload_n 0, 1) := by decide +kernel
theorem dX2_light_53 : decode cX2_light 53 = .ok (.getfield 9, 3) := by decide +kernel
theorem dX2_light_56 : decode cX2_light 56 = .ok (.iload_n 2, 1) := by decide +kernel
theorem dX2_light_57 : decode cX2_light 57 = .ok (.iaload, 1) := by decide +kernel
theorem dX2_light_58 : decode cX2_light 58 = .ok (.iconst 1, 1) := by decide +kernel
theorem dX2_light_59 : decode cX2_light 59 = .ok (.if_icmp .ne 7, 3) := by decide +kernel
theorem dX2_light_62 : decode cX2_light 62 = .ok (.iconst 0, 1) := by decide +kernel
theorem dX2_light_63 : decode cX2_light 63 = .ok (.goto 5, 3) := by decide +kernel
theorem dX2_light_66 : decode cX2_light 66 = .ok (.ldc 51, 2) := by decide +kernel
theorem dX2_light_68 : decode cX2_light 68 = .ok (.iastore, 1) := by decide +kernel
theorem dX2_light_69 : decode cX2_light 69 = .ok (.iinc 2 1, 3) := by decide +kernel
theorem dX2_light_72 : decode cX2_light 72 = .ok (.goto (-62), 3) := by decide +kernel
theorem dX2_light_75 : decode cX2_light 75 = .ok (.return_, 1) := by decide +kernel
theorem dX2_litAt_0 : decode cX2_litAt 0 = .ok (.iconst 0, 1) := by decide +kernel
theorem dX2_litAt_1 : decode cX2_litAt 1 = .ok (.istore_n 2, 1) := by decide +kernel
theorem dX2_litAt_2 : decode cX2_litAt 2 = .ok (.iconst 0, 1) := by decide +kernel
theorem dX2_litAt_3 : decode cX2_litAt 3 = .ok (.istore_n 3, 1) := by decide +kernel
theorem dX2_litAt_4 : decode cX2_litAt 4 = .ok (.iload_n 3, 1) := by decide +kernel
theorem dX2_litAt_5 : decode cX2_litAt 5 = .ok (.aload_n 0, 1) := by decide +kernel
theorem dX2_litAt_6 : decode cX2_litAt 6 = .ok (.getfield 18, 3) := by decide +kernel
theorem dX2_litAt_9 : decode cX2_litAt 9 = .ok (.getfield 42, 3) := by decide +kernel
theorem dX2_litAt_12 : decode cX2_litAt 12 = .ok (.if_icmp .ge 25, 3) := by decide +kernel
theorem dX2_litAt_15 : decode cX2_litAt 15 = .ok (.aload_n 0, 1) := by decide +kernel
theorem dX2_litAt_16 : decode cX2_litAt 16 = .ok (.getfield 15, 3) := by decide +kernel
theorem dX2_litAt_19 : decode cX2_litAt 19 = .ok (.iload_n 3, 1) := by decide +kernel
theorem dX2_litAt_20 : decode cX2_litAt 20 = .ok (.iaload, 1) := by decide +kernel
theorem dX2_litAt_21 : decode cX2_litAt 21 = .ok (.iload_n 1, 1) := by decide +kernel
theorem dX2_litAt_22 : decode cX2_litAt 22 = .ok (.if_icmp .gt 9, 3) := by decide +kernel
theorem dX2_litAt_25 : decode cX2_litAt 25 = .ok (.iload_n 2, 1) := by decide +kernel
theorem dX2_litAt_26 : decode cX2_litAt 26 = .ok (.iconst 1, 1) := by decide +kernel
theorem dX2_litAt_27 : decode cX2_litAt 27 = .ok (.iload_n 3, 1) := by decide +kernel
theorem dX2_litAt_28 : decode cX2_litAt 28 = .ok (.ishl, 1) := by decide +kernel
theorem dX2_litAt_29 : decode cX2_litAt 29 = .ok (.ior, 1) := by decide +kernel
theorem dX2_litAt_30 : decode cX2_litAt 30 = .ok (.istore_n 2, 1) := by decide +kernel
theorem dX2_litAt_31 : decode cX2_litAt 31 = .ok (.iinc 3 1, 3) := by decide +kernel
theorem dX2_litAt_34 : decode cX2_litAt 34 = .ok (.goto (-30), 3) := by decide +kernel
theorem dX2_litAt_37 : decode cX2_litAt 37 = .ok (.iload_n 2, 1) := by decide +kernel
theorem dX2_litAt_38 : decode cX2_litAt 38 = .ok (.ireturn, 1) := by decide +kernel
theorem dX2_shownOf_0 : decode cX2_shownOf 0 = .ok (.iconst 0, 1) := by decide +kernel
theorem dX2_shownOf_1 : decode cX2_shownOf 1 = .ok (.istore_n 3, 1) := by decide +kernel
theorem dX2_shownOf_2 : decode cX2_shownOf 2 = .ok (.iconst 0, 1) := by decide +kernel
theorem dX2_shownOf_3 : decode cX2_shownOf 3 = .ok (.istore 4, 2) := by decide +kernel
theorem dX2_shownOf_5 : decode cX2_shownOf 5 = .ok (.iload 4, 2) := by decide +kernel
theorem dX2_shownOf_7 : decode cX2_shownOf 7 = .ok (.aload_n 0, 1) := by decide +kernel
theorem dX2_shownOf_8 : decode cX2_shownOf 8 = .ok (.getfield 18, 3) := by decide +kernel
theorem dX2_shownOf_11 : decode cX2_shownOf 11 = .ok (.getfield 52, 3) := by decide +kernel
theorem dX2_shownOf_14 : decode cX2_shownOf 14 = .ok (.if_icmp .ge 93, 3) := by decide +kernel
theorem dX2_shownOf_17 : decode cX2_shownOf 17 = .ok (.iload_n 1, 1) := by decide +kernel
theorem dX2_shownOf_18 : decode cX2_shownOf 18 = .ok (.aload_n 0, 1) := by decide +kernel
theorem dX2_shownOf_19 : decode cX2_shownOf 19 = .ok (.getfield 18, 3) := by decide +kernel
theorem dX2_shownOf_22 : decode cX2_shownOf 22 = .ok (.getfield 55, 3) := by decide +kernel
theorem dX2_shownOf_25 : decode cX2_shownOf 25 = .ok (.iload 4, 2) := by decide +kernel
theorem dX2_shownOf_27 : decode cX2_shownOf 27 = .ok (.iaload, 1) := by decide +kernel
theorem dX2_shownOf_28 : decode cX2_shownOf 28 = .ok (.invokestatic 58, 3) := by decide +kernel
theorem dX2_shownOf_31 : decode cX2_shownOf 31 = .ok (.ifCond .eq 38, 3) := by decide +kernel
theorem dX2_shownOf_34 : decode cX2_shownOf 34 = .ok (.aload_n 0, 1) := by decide +kernel
theorem dX2_shownOf_35 : decode cX2_shownOf 35 = .ok (.getfield 18, 3) := by decide +kernel
theorem dX2_shownOf_38 : decode cX2_shownOf 38 = .ok (.getfield 62, 3) := by decide +kernel
theorem dX2_shownOf_41 : decode cX2_shownOf 41 = .ok (.iload 4, 2) := by decide +kernel
theorem dX2_shownOf_43 : decode cX2_shownOf 43 = .ok (.iaload, 1) := by decide +kernel
theorem dX2_shownOf_44 : decode cX2_shownOf 44 = .ok (.iconst (-1), 1) := by decide +kernel
theorem dX2_shownOf_45 : decode cX2_shownOf 45 = .ok (.if_icmp .eq 20, 3) := by decide +kernel
theorem dX2_shownOf_48 : decode cX2_shownOf 48 = .ok (.iload_n 1, 1) := by decide +kernel
theorem dX2_shownOf_49 : decode cX2_shownOf 49 = .ok (.aload_n 0, 1) := by decide +kernel
theorem dX2_shownOf_50 : decode cX2_shownOf 50 = .ok (.getfield 18, 3) := by decide +kernel
theorem dX2_shownOf_53 : decode cX2_shownOf 53 = .ok (.getfield 62, 3) := by decide +kernel
theorem dX2_shownOf_56 : decode cX2_shownOf 56 = .ok (.iload 4, 2) := by decide +kernel
theorem dX2_shownOf_58 : decode cX2_shownOf 58 = .ok (.iaload, 1) := by decide +kernel
theorem dX2_shownOf_59 : decode cX2_shownOf 59 = .ok (.invokestatic 58, 3) := by decide +kernel
theorem dX2_shownOf_62 : decode cX2_shownOf 62 = .ok (.ifCond .ne 7, 3) := by decide +kernel
theorem dX2_shownOf_65 : decode cX2_shownOf 65 = .ok (.iconst 1, 1) := by decide +kernel
theorem dX2_shownOf_66 : decode cX2_shownOf 66 = .ok (.goto 4, 3) := by decide +kernel
theorem dX2_shownOf_69 : decode cX2_shownOf 69 = .ok (.iconst 0, 1) := by decide +kernel
theorem dX2_shownOf_70 : decode cX2_shownOf 70 = .ok (.istore 5, 2) := by decide +kernel
theorem dX2_shownOf_72 : decode cX2_shownOf 72 = .ok (.iload 5, 2) := by decide +kernel
theorem dX2_shownOf_74 : decode cX2_shownOf 74 = .ok (.ifCond .eq 27, 3) := by decide +kernel
theorem dX2_shownOf_77 : decode cX2_shownOf 77 = .ok (.iload_n 2, 1) := by decide +kernel
theorem dX2_shownOf_78 : decode cX2_shownOf 78 = .ok (.iload 4, 2) := by decide +kernel
theorem dX2_shownOf_80 : decode cX2_shownOf 80 = .ok (.invokestatic 58, 3) := by decide +kernel
theorem dX2_shownOf_83 : decode cX2_shownOf 83 = .ok (.ifCond .ne 18, 3) := by decide +kernel
theorem dX2_shownOf_86 : decode cX2_shownOf 86 = .ok (.iload_n 3, 1) := by decide +kernel
theorem dX2_shownOf_87 : decode cX2_shownOf 87 = .ok (.iconst 1, 1) := by decide +kernel
theorem dX2_shownOf_88 : decode cX2_shownOf 88 = .ok (.aload_n 0, 1) := by decide +kernel
theorem dX2_shownOf_89 : decode cX2_shownOf 89 = .ok (.getfield 18, 3) := by decide +kernel
theorem dX2_shownOf_92 : decode cX2_shownOf 92 = .ok (.getfield 65, 3) := by decide +kernel
theorem dX2_shownOf_95 : decode cX2_shownOf 95 = .ok (.iload 4, 2) := by decide +kernel
theorem dX2_shownOf_97 : decode cX2_shownOf 97 = .ok (.iaload, 1) := by decide +kernel
theorem dX2_shownOf_98 : decode cX2_shownOf 98 = .ok (.ishl, 1) := by decide +kernel
theorem dX2_shownOf_99 : decode cX2_shownOf 99 = .ok (.ior, 1) := by decide +kernel
theorem dX2_shownOf_100 : decode cX2_shownOf 100 = .ok (.istore_n 3, 1) := by decide +kernel
theorem dX2_shownOf_101 : decode cX2_shownOf 101 = .ok (.iinc 4 1, 3) := by decide +kernel
theorem dX2_shownOf_104 : decode cX2_shownOf 104 = .ok (.goto (-99), 3) := by decide +kernel
theorem dX2_shownOf_107 : decode cX2_shownOf 107 = .ok (.iload_n 1, 1) := by decide +kernel
theorem dX2_shownOf_108 : decode cX2_shownOf 108 = .ok (.iload_n 3, 1) := by decide +kernel
theorem dX2_shownOf_109 : decode cX2_shownOf 109 = .ok (.iconst (-1), 1) := by decide +kernel
theorem dX2_shownOf_110 : decode cX2_shownOf 110 = .ok (.ixor, 1) := by decide +kernel
theorem dX2_shownOf_111 : decode cX2_shownOf 111 = .ok (.iand, 1) := by decide +kernel
theorem dX2_shownOf_112 : decode cX2_shownOf 112 = .ok (.ireturn, 1) := by decide +kernel
theorem dX2_nextChange_0 : decode cX2_nextChange 0 = .ok (.ldc 51, 2) := by decide +kernel
theorem dX2_nextChange_2 : decode cX2_nextChange 2 = .ok (.istore_n 2, 1) := by decide +kernel
theorem dX2_nextChange_3 : decode cX2_nextChange 3 = .ok (.iconst 0, 1) := by decide +kernel
theorem dX2_nextChange_4 : decode cX2_nextChange 4 = .ok (.istore_n 3, 1) := by decide +kernel
theorem dX2_nextChange_5 : decode cX2_nextChange 5 = .ok (.iload_n 3, 1) := by decide +kernel
theorem dX2_nextChange_6 : decode cX2_nextChange 6 = .ok (.aload_n 0, 1) := by decide +kernel
theorem dX2_nextChange_7 : decode cX2_nextChange 7 = .ok (.getfield 18, 3) := by decide +kernel
theorem dX2_nextChange_10 : decode cX2_nextChange 10 = .ok (.getfield 42, 3) := by decide +kernel
theorem dX2_nextChange_13 : decode cX2_nextChange 13 = .ok (.if_icmp .ge 30, 3) := by decide +kernel
theorem dX2_nextChange_16 : decode cX2_nextChange 16 = .ok (.aload_n 0, 1) := by decide +kernel
theorem dX2_nextChange_17 : decode cX2_nextChange 17 = .ok (.getfield 15, 3) := by decide +kernel
theorem dX2_nextChange_20 : decode cX2_nextChange 20 = .ok (.iload_n 3, 1) := by decide +kernel
theorem dX2_nextChange_21 : decode cX2_nextChange 21 = .ok (.iaload, 1) := by decide +kernel
theorem dX2_nextChange_22 : decode cX2_nextChange 22 = .ok (.iload_n 1, 1) := by decide +kernel
theorem dX2_nextChange_23 : decode cX2_nextChange 23 = .ok (.if_icmp .le 14, 3) := by decide +kernel
theorem dX2_nextChange_26 : decode cX2_nextChange 26 = .ok (.iload_n 2, 1) := by decide +kernel
theorem dX2_nextChange_27 : decode cX2_nextChange 27 = .ok (.aload_n 0, 1) := by decide +kernel
theorem dX2_nextChange_28 : decode cX2_nextChange 28 = .ok (.getfield 15, 3) := by decide +kernel
theorem dX2_nextChange_31 : decode cX2_nextChange 31 = .ok (.iload_n 3, 1) := by decide +kernel
theorem dX2_nextChange_32 : decode cX2_nextChange 32 = .ok (.iaload, 1) := by decide +kernel
theorem dX2_nextChange_33 : decode cX2_nextChange 33 = .ok (.invokestatic 68, 3) := by decide +kernel
theorem dX2_nextChange_36 : decode cX2_nextChange 36 = .ok (.istore_n 2, 1) := by decide +kernel
theorem dX2_nextChange_37 : decode cX2_nextChange 37 = .ok (.iinc 3 1, 3) := by decide +kernel
theorem dX2_nextChange_40 : decode cX2_nextChange 40 = .ok (.goto (-35), 3) := by decide +kernel
theorem dX2_nextChange_43 : decode cX2_nextChange 43 = .ok (.iload_n 2, 1) := by decide +kernel
theorem dX2_nextChange_44 : decode cX2_nextChange 44 = .ok (.ireturn, 1) := by decide +kernel
theorem dX2_firstOut_0 : decode cX2_firstOut 0 = .ok (.iconst (-1), 1) := by decide +kernel
theorem dX2_firstOut_1 : decode cX2_firstOut 1 = .ok (.istore_n 1, 1) := by decide +kernel
theorem dX2_firstOut_2 : decode cX2_firstOut 2 = .ok (.ldc 51, 2) := by decide +kernel
theorem dX2_firstOut_4 : decode cX2_firstOut 4 = .ok (.istore_n 2, 1) := by decide +kernel
theorem dX2_firstOut_5 : decode cX2_firstOut 5 = .ok (.iconst 0, 1) := by decide +kernel
theorem dX2_firstOut_6 : decode cX2_firstOut 6 = .ok (.istore_n 3, 1) := by decide +kernel
theorem dX2_firstOut_7 : decode cX2_firstOut 7 = .ok (.iload_n 3, 1) := by decide +kernel
theorem dX2_firstOut_8 : decode cX2_firstOut 8 = .ok (.aload_n 0, 1) := by decide +kernel
theorem dX2_firstOut_9 : decode cX2_firstOut 9 = .ok (.getfield 18, 3) := by decide +kernel
theorem dX2_firstOut_12 : decode cX2_firstOut 12 = .ok (.getfield 42, 3) := by decide +kernel
theorem dX2_firstOut_15 : decode cX2_firstOut 15 = .ok (.if_icmp .ge 37, 3) := by decide +kernel
theorem dX2_firstOut_18 : decode cX2_firstOut 18 = .ok (.aload_n 0, 1) := by decide +kernel
theorem dX2_firstOut_19 : decode cX2_firstOut 19 = .ok (.getfield 9, 3) := by decide +kernel
theorem dX2_firstOut_22 : decode cX2_firstOut 22 = .ok (.iload_n 3, 1) := by decide +kernel
theorem dX2_firstOut_23 : decode cX2_firstOut 23 = .ok (.iaload, 1) := by decide +kernel
theorem dX2_firstOut_24 : decode cX2_firstOut 24 = .ok (.ifCond .ne 22, 3) := by decide +kernel
theorem dX2_firstOut_27 : decode cX2_firstOut 27 = .ok (.aload_n 0, 1) := by decide +kernel
theorem dX2_firstOut_28 : decode cX2_firstOut 28 = .ok (.getfield 15, 3) := by decide +kernel
theorem dX2_firstOut_31 : decode cX2_firstOut 31 = .ok (.iload_n 3, 1) := by decide +kernel
theorem dX2_firstOut_32 : decode cX2_firstOut 32 = .ok (.iaload, 1) := by decide +kernel
theorem dX2_firstOut_33 : decode cX2_firstOut 33 = .ok (.iload_n 2, 1) := by decide +kernel
theorem dX2_firstOut_34 : decode cX2_firstOut 34 = .ok (.if_icmp .ge 12, 3) := by decide +kernel
theorem dX2_firstOut_37 : decode cX2_firstOut 37 = .ok (.iload_n 3, 1) := by decide +kernel
theorem dX2_firstOut_38 : decode cX2_firstOut 38 = .ok (.istore_n 1, 1) := by decide +kernel
theorem dX2_firstOut_39 : decode cX2_firstOut 39 = .ok (.aload_n 0, 1) := by decide +kernel
theorem dX2_firstOut_40 : decode cX2_firstOut 40 = .ok (.getfield 15, 3) := by decide +kernel
theorem dX2_firstOut_43 : decode cX2_firstOut 43 = .ok (.iload_n 3, 1) := by decide +kernel
theorem dX2_firstOut_44 : decode cX2_firstOut 44 = .ok (.iaload, 1) := by decide +kernel
theorem dX2_firstOut_45 : decode cX2_firstOut 45 = .ok (.istore_n 2, 1) := by decide +kernel
theorem dX2_firstOut_46 : decode cX2_firstOut 46 = .ok (.iinc 3 1, 3) := by decide +kernel
theorem dX2_firstOut_49 : decode cX2_firstOut 49 = .ok (.goto (-42), 3) := by decide +kernel
theorem dX2_firstOut_52 : decode cX2_firstOut 52 = .ok (.iload_n 1, 1) := by decide +kernel
theorem dX2_firstOut_53 : decode cX2_firstOut 53 = .ok (.ireturn, 1) := by decide +kernel
theorem dX2_hornsBegun_0 : decode cX2_hornsBegun 0 = .ok (.iconst 0, 1) := by decide +kernel
theorem dX2_hornsBegun_1 : decode cX2_hornsBegun 1 = .ok (.istore_n 2, 1) := by decide +kernel
theorem dX2_hornsBegun_2 : decode cX2_hornsBegun 2 = .ok (.aload_n 0, 1) := by decide +kernel
theorem dX2_hornsBegun_3 : decode cX2_hornsBegun 3 = .ok (.iconst 0, 1) := by decide +kernel
theorem dX2_hornsBegun_4 : decode cX2_hornsBegun 4 = .ok (.invokevirtual 74, 3) := by decide +kernel
theorem dX2_hornsBegun_7 : decode cX2_hornsBegun 7 = .ok (.istore_n 3, 1) := by decide +kernel
theorem dX2_hornsBegun_8 : decode cX2_hornsBegun 8 = .ok (.iconst 0, 1) := by decide +kernel
theorem dX2_hornsBegun_9 : decode cX2_hornsBegun 9 = .ok (.istore 4, 2) := by decide +kernel
theorem dX2_hornsBegun_11 : decode cX2_hornsBegun 11 = .ok (.iload 4, 2) := by decide +kernel
theorem dX2_hornsBegun_13 : decode cX2_hornsBegun 13 = .ok (.aload_n 0, 1) := by decide +kernel
theorem dX2_hornsBegun_14 : decode cX2_hornsBegun 14 = .ok (.getfield 18, 3) := by decide +kernel
theorem dX2_hornsBegun_17 : decode cX2_hornsBegun 17 = .ok (.getfield 42, 3) := by decide +kernel
theorem dX2_hornsBegun_20 : decode cX2_hornsBegun 20 = .ok (.if_icmp .ge 26, 3) := by decide +kernel
theorem dX2_hornsBegun_23 : decode cX2_hornsBegun 23 = .ok (.iload_n 3, 1) := by decide +kernel
theorem dX2_hornsBegun_24 : decode cX2_hornsBegun 24 = .ok (.ldc 51, 2) := by decide +kernel
theorem dX2_hornsBegun_26 : decode cX2_hornsBegun 26 = .ok (.if_icmp .ge 20, 3) := by decide +kernel
theorem dX2_hornsBegun_29 : decode cX2_hornsBegun 29 = .ok (.iinc 2 1, 3) := by decide +kernel
theorem dX2_hornsBegun_32 : decode cX2_hornsBegun 32 = .ok (.aload_n 0, 1) := by decide +kernel
theorem dX2_hornsBegun_33 : decode cX2_hornsBegun 33 = .ok (.iload_n 3, 1) := by decide +kernel
theorem dX2_hornsBegun_34 : decode cX2_hornsBegun 34 = .ok (.iload_n 1, 1) := by decide +kernel
theorem dX2_hornsBegun_35 : decode cX2_hornsBegun 35 = .ok (.iadd, 1) := by decide +kernel
theorem dX2_hornsBegun_36 : decode cX2_hornsBegun 36 = .ok (.invokevirtual 74, 3) := by decide +kernel
theorem dX2_hornsBegun_39 : decode cX2_hornsBegun 39 = .ok (.istore_n 3, 1) := by decide +kernel
theorem dX2_hornsBegun_40 : decode cX2_hornsBegun 40 = .ok (.iinc 4 1, 3) := by decide +kernel
theorem dX2_hornsBegun_43 : decode cX2_hornsBegun 43 = .ok (.goto (-32), 3) := by decide +kernel
theorem dX2_hornsBegun_46 : decode cX2_hornsBegun 46 = .ok (.iload_n 2, 1) := by decide +kernel
theorem dX2_hornsBegun_47 : decode cX2_hornsBegun 47 = .ok (.ireturn, 1) := by decide +kernel
theorem dX2_nextSound_0 : decode cX2_nextSound 0 = .ok (.ldc 51, 2) := by decide +kernel
theorem dX2_nextSound_2 : decode cX2_nextSound 2 = .ok (.istore_n 2, 1) := by decide +kernel
theorem dX2_nextSound_3 : decode cX2_nextSound 3 = .ok (.iconst 0, 1) := by decide +kernel
theorem dX2_nextSound_4 : decode cX2_nextSound 4 = .ok (.istore_n 3, 1) := by decide +kernel
theorem dX2_nextSound_5 : decode cX2_nextSound 5 = .ok (.iload_n 3, 1) := by decide +kernel
theorem dX2_nextSound_6 : decode cX2_nextSound 6 = .ok (.aload_n 0, 1) := by decide +kernel
theorem dX2_nextSound_7 : decode cX2_nextSound 7 = .ok (.getfield 18, 3) := by decide +kernel
theorem dX2_nextSound_10 : decode cX2_nextSound 10 = .ok (.getfield 42, 3) := by decide +kernel
theorem dX2_nextSound_13 : decode cX2_nextSound 13 = .ok (.if_icmp .ge 39, 3) := by decide +kernel
theorem dX2_nextSound_16 : decode cX2_nextSound 16 = .ok (.aload_n 0, 1) := by decide +kernel
theorem dX2_nextSound_17 : decode cX2_nextSound 17 = .ok (.getfield 9, 3) := by decide +kernel
theorem dX2_nextSound_20 : decode cX2_nextSound 20 = .ok (.iload_n 3, 1) := by decide +kernel
theorem dX2_nextSound_21 : decode cX2_nextSound 21 = .ok (.iaload, 1) := by decide +kernel
theorem dX2_nextSound_22 : decode cX2_nextSound 22 = .ok (.ifCond .ne 24, 3) := by decide +kernel
theorem dX2_nextSound_25 : decode cX2_nextSound 25 = .ok (.aload_n 0, 1) := by decide +kernel
theorem dX2_nextSound_26 : decode cX2_nextSound 26 = .ok (.getfield 15, 3) := by decide +kernel
theorem dX2_nextSound_29 : decode cX2_nextSound 29 = .ok (.iload_n 3, 1) := by decide +kernel
theorem dX2_nextSound_30 : decode cX2_nextSound 30 = .ok (.iaload, 1) := by decide +kernel
theorem dX2_nextSound_31 : decode cX2_nextSound 31 = .ok (.iload_n 1, 1) := by decide +kernel
theorem dX2_nextSound_32 : decode cX2_nextSound 32 = .ok (.if_icmp .lt 14, 3) := by decide +kernel
theorem dX2_nextSound_35 : decode cX2_nextSound 35 = .ok (.iload_n 2, 1) := by decide +kernel
theorem dX2_nextSound_36 : decode cX2_nextSound 36 = .ok (.aload_n 0, 1) := by decide +kernel
theorem dX2_nextSound_37 : decode cX2_nextSound 37 = .ok (.getfield 15, 3) := by decide +kernel
theorem dX2_nextSound_40 : decode cX2_nextSound 40 = .ok (.iload_n 3, 1) := by decide +kernel
theorem dX2_nextSound_41 : decode cX2_nextSound 41 = .ok (.iaload, 1) := by decide +kernel
theorem dX2_nextSound_42 : decode cX2_nextSound 42 = .ok (.invokestatic 68, 3) := by decide +kernel
theorem dX2_nextSound_45 : decode cX2_nextSound 45 = .ok (.istore_n 2, 1) := by decide +kernel
theorem dX2_nextSound_46 : decode cX2_nextSound 46 = .ok (.iinc 3 1, 3) := by decide +kernel
theorem dX2_nextSound_49 : decode cX2_nextSound 49 = .ok (.goto (-44), 3) := by decide +kernel
theorem dX2_nextSound_52 : decode cX2_nextSound 52 = .ok (.iload_n 2, 1) := by decide +kernel
theorem dX2_nextSound_53 : decode cX2_nextSound 53 = .ok (.ireturn, 1) := by decide +kernel
theorem dX2_stuckLit_0 : decode cX2_stuckLit 0 = .ok (.iconst 0, 1) := by decide +kernel
theorem dX2_stuckLit_1 : decode cX2_stuckLit 1 = .ok (.istore_n 1, 1) := by decide +kernel
theorem dX2_stuckLit_2 : decode cX2_stuckLit 2 = .ok (.iconst 0, 1) := by decide +kernel
theorem dX2_stuckLit_3 : decode cX2_stuckLit 3 = .ok (.istore_n 2, 1) := by decide +kernel
theorem dX2_stuckLit_4 : decode cX2_stuckLit 4 = .ok (.iload_n 2, 1) := by decide +kernel
theorem dX2_stuckLit_5 : decode cX2_stuckLit 5 = .ok (.aload_n 0, 1) := by decide +kernel
theorem dX2_stuckLit_6 : decode cX2_stuckLit 6 = .ok (.getfield 18, 3) := by decide +kernel
theorem dX2_stuckLit_9 : decode cX2_stuckLit 9 = .ok (.getfield 42, 3) := by decide +kernel
theorem dX2_stuckLit_12 : decode cX2_stuckLit 12 = .ok (.if_icmp .ge 25, 3) := by decide +kernel
theorem dX2_stuckLit_15 : decode cX2_stuckLit 15 = .ok (.aload_n 0, 1) := by decide +kernel
theorem dX2_stuckLit_16 : decode cX2_stuckLit 16 = .ok (.getfield 9, 3) := by decide +kernel
theorem dX2_stuckLit_19 : decode cX2_stuckLit 19 = .ok (.iload_n 2, 1) := by decide +kernel
theorem dX2_stuckLit_20 : decode cX2_stuckLit 20 = .ok (.iaload, 1) := by decide +kernel
theorem dX2_stuckLit_21 : decode cX2_stuckLit 21 = .ok (.iconst 1, 1) := by decide +kernel
theorem dX2_stuckLit_22 : decode cX2_stuckLit 22 = .ok (.if_icmp .ne 9, 3) := by decide +kernel
theorem dX2_stuckLit_25 : decode cX2_stuckLit 25 = .ok (.iload_n 1, 1) := by decide +kernel
theorem dX2_stuckLit_26 : decode cX2_stuckLit 26 = .ok (.iconst 1, 1) := by decide +kernel
theorem dX2_stuckLit_27 : decode cX2_stuckLit 27 = .ok (.iload_n 2, 1) := by decide +kernel
theorem dX2_stuckLit_28 : decode cX2_stuckLit 28 = .ok (.ishl, 1) := by decide +kernel
theorem dX2_stuckLit_29 : decode cX2_stuckLit 29 = .ok (.ior, 1) := by decide +kernel
theorem dX2_stuckLit_30 : decode cX2_stuckLit 30 = .ok (.istore_n 1, 1) := by decide +kernel
theorem dX2_stuckLit_31 : decode cX2_stuckLit 31 = .ok (.iinc 2 1, 3) := by decide +kernel
theorem dX2_stuckLit_34 : decode cX2_stuckLit 34 = .ok (.goto (-30), 3) := by decide +kernel
theorem dX2_stuckLit_37 : decode cX2_stuckLit 37 = .ok (.iload_n 1, 1) := by decide +kernel
theorem dX2_stuckLit_38 : decode cX2_stuckLit 38 = .ok (.ireturn, 1) := by decide +kernel
theorem dX2_countStuck_0 : decode cX2_countStuck 0 = .ok (.iconst 0, 1) := by decide +kernel
theorem dX2_countStuck_1 : decode cX2_countStuck 1 = .ok (.istore_n 1, 1) := by decide +kernel
theorem dX2_countStuck_2 : decode cX2_countStuck 2 = .ok (.iconst 0, 1) := by decide +kernel
theorem dX2_countStuck_3 : decode cX2_countStuck 3 = .ok (.istore_n 2, 1) := by decide +kernel
theorem dX2_countStuck_4 : decode cX2_countStuck 4 = .ok (.iload_n 2, 1) := by decide +kernel
theorem dX2_countStuck_5 : decode cX2_countStuck 5 = .ok (.aload_n 0, 1) := by decide +kernel
theorem dX2_countStuck_6 : decode cX2_countStuck 6 = .ok (.getfield 18, 3) := by decide +kernel
theorem dX2_countStuck_9 : decode cX2_countStuck 9 = .ok (.getfield 42, 3) := by decide +kernel
theorem dX2_countStuck_12 : decode cX2_countStuck 12 = .ok (.if_icmp .ge 21, 3) := by decide +kernel
theorem dX2_countStuck_15 : decode cX2_countStuck 15 = .ok (.aload_n 0, 1) := by decide +kernel
theorem dX2_countStuck_16 : decode cX2_countStuck 16 = .ok (.getfield 9, 3) := by decide +kernel
theorem dX2_countStuck_19 : decode cX2_countStuck 19 = .ok (.iload_n 2, 1) := by decide +kernel
theorem dX2_countStuck_20 : decode cX2_countStuck 20 = .ok (.iaload, 1) := by decide +kernel
theorem dX2_countStuck_21 : decode cX2_countStuck 21 = .ok (.ifCond .eq 6, 3) := by decide +kernel
theorem dX2_countStuck_24 : decode cX2_countStuck 24 = .ok (.iinc 1 1, 3) := by decide +kernel
theorem dX2_countStuck_27 : decode cX2_countStuck 27 = .ok (.iinc 2 1, 3) := by decide +kernel
theorem dX2_countStuck_30 : decode cX2_countStuck 30 = .ok (.goto (-26), 3) := by decide +kernel
theorem dX2_countStuck_33 : decode cX2_countStuck 33 = .ok (.iload_n 1, 1) := by decide +kernel
theorem dX2_countStuck_34 : decode cX2_countStuck 34 = .ok (.ireturn, 1) := by decide +kernel
theorem dX3_init_0 : decode cX3_init 0 = .ok (.aload_n 0, 1) := by decide +kernel
theorem dX3_init_1 : decode cX3_init 1 = .ok (.invokespecial 3, 3) := by decide +kernel
theorem dX3_init_4 : decode cX3_init 4 = .ok (.aload_n 0, 1) := by decide +kernel
theorem dX3_init_5 : decode cX3_init 5 = .ok (.bipush 12, 2) := by decide +kernel
theorem dX3_init_7 : decode cX3_init 7 = .ok (.newarray .boolean, 2) := by decide +kernel
theorem dX3_init_9 : decode cX3_init 9 = .ok (.putfield 9, 3) := by decide +kernel
theorem dX3_init_12 : decode cX3_init 12 = .ok (.aload_n 0, 1) := by decide +kernel
theorem dX3_init_13 : decode cX3_init 13 = .ok (.bipush 24, 2) := by decide +kernel
theorem dX3_init_15 : decode cX3_init 15 = .ok (.newarray .int, 2) := by decide +kernel
theorem dX3_init_17 : decode cX3_init 17 = .ok (.putfield 15, 3) := by decide +kernel
theorem dX3_init_20 : decode cX3_init 20 = .ok (.aload_n 0, 1) := by decide +kernel
theorem dX3_init_21 : decode cX3_init 21 = .ok (.bipush 24, 2) := by decide +kernel
theorem dX3_init_23 : decode cX3_init 23 = .ok (.newarray .int, 2) := by decide +kernel
theorem dX3_init_25 : decode cX3_init 25 = .ok (.putfield 19, 3) := by decide +kernel
theorem dX3_init_28 : decode cX3_init 28 = .ok (.aload_n 0, 1) := by decide +kernel
theorem dX3_init_29 : decode cX3_init 29 = .ok (.bipush 24, 2) := by decide +kernel
theorem dX3_init_31 : decode cX3_init 31 = .ok (.newarray .int, 2) := by decide +kernel
theorem dX3_init_33 : decode cX3_init 33 = .ok (.putfield 22, 3) := by decide +kernel
theorem dX3_init_36 : decode cX3_init 36 = .ok (.aload_n 0, 1) := by decide +kernel
theorem dX3_init_37 : decode cX3_init 37 = .ok (.bipush 12, 2) := by decide +kernel
theorem dX3_init_39 : decode cX3_init 39 = .ok (.newarray .int, 2) := by decide +kernel
theorem dX3_init_41 : decode cX3_init 41 = .ok (.putfield 25, 3) := by decide +kernel
theorem dX3_init_44 : decode cX3_init 44 = .ok (.aload_n 0, 1) := by decide +kernel
theorem dX3_init_45 : decode cX3_init 45 = .ok (.bipush 12, 2) := by decide +kernel
theorem dX3_init_47 : decode cX3_init 47 = .ok (.newarray .int, 2) := by decide +kernel
theorem dX3_init_49 : decode cX3_init 49 = .ok (.putfield 28, 3) := by decide +kernel
theorem dX3_init_52 : decode cX3_init 52 = .ok (.aload_n 0, 1) := by decide +kernel
theorem dX3_init_53 : decode cX3_init 53 = .ok (.bipush 8, 2) := by decide +kernel
theorem dX3_init_55 : decode cX3_init 55 = .ok (.newarray .int, 2) := by decide +kernel
theorem dX3_init_57 : decode cX3_init 57 = .ok (.putfield 31, 3) := by decide +kernel
theorem dX3_init_60 : decode cX3_init 60 = .ok (.aload_n 0, 1) := by decide +kernel
theorem dX3_init_61 : decode cX3_init 61 = .ok (.bipush 8, 2) := by decide +kernel
theorem dX3_init_63 : decode cX3_init 63 = .ok (.newarray .int, 2) := by decide +kernel
theorem dX3_init_65 : decode cX3_init 65 = .ok (.putfield 34, 3) := by decide +kernel
theorem dX3_init_68 : decode cX3_init 68 = .ok (.aload_n 0, 1) := by decide +kernel
theorem dX3_init_69 : decode cX3_init 69 = .ok (.bipush 8, 2) := by decide +kernel
theorem dX3_init_71 : decode cX3_init 71 = .ok (.newarray .int, 2) := by decide +kernel
theorem dX3_init_73 : decode cX3_init 73 = .ok (.putfield 37, 3) := by decide +kernel
theorem dX3_init_76 : decode cX3_init 76 = .ok (.return_, 1) := by decide +kernel
theorem dX3_clear_0 : decode cX3_clear 0 = .ok (.aload_n 0, 1) := by decide +kernel
theorem dX3_clear_1 : decode cX3_clear 1 = .ok (.iconst 0, 1) := by decide +kernel
theorem dX3_clear_2 : decode cX3_clear 2 = .ok (.putfield 40, 3) := by decide +kernel
theorem dX3_clear_5 : decode cX3_clear 5 = .ok (.aload_n 0, 1) := by decide +kernel
theorem dX3_clear_6 : decode cX3_clear 6 = .ok (.iconst 0, 1) := by decide +kernel
theorem dX3_clear_7 : decode cX3_clear 7 = .ok (.putfield 44, 3) := by decide +kernel
theorem dX3_clear_10 : decode cX3_clear 10 = .ok (.aload_n 0, 1) := by decide +kernel
theorem dX3_clear_11 : decode cX3_clear 11 = .ok (.iconst 0, 1) := by decide +kernel
theorem dX3_clear_12 : decode cX3_clear 12 = .ok (.putfield 47, 3) := by decide +kernel
theorem dX3_clear_15 : decode cX3_clear 15 = .ok (.aload_n 0, 1) := by decide +kernel
theorem dX3_clear_16 : decode cX3_clear 16 = .ok (.iconst 0, 1) := by decide +kernel
theorem dX3_clear_17 : decode cX3_clear 17 = .ok (.putfield 50, 3) := by decide +kernel
theorem dX3_clear_20 : decode cX3_clear 20 = .ok (.return_, 1) := by decide +kernel
theorem dX3_addPoint_0 : decode cX3_addPoint 0 = .ok (.aload_n 0, 1) := by decide +kernel
theorem dX3_addPoint_1 : decode cX3_addPoint 1 = .ok (.getfield 40, 3) := by decide +kernel
theorem dX3_addPoint_4 : decode cX3_addPoint 4 = .ok (.bipush 12, 2) := by decide +kernel
theorem dX3_addPoint_6 : decode cX3_addPoint 6 = .ok (.if_icmp .ge 23, 3) := by decide +kernel
theorem dX3_addPoint_9 : decode cX3_addPoint 9 = .ok (.aload_n 0, 1) := by decide +kernel
theorem dX3_addPoint_10 : decode cX3_addPoint 10 = .ok (.getfield 9, 3) := by decide +kernel
theorem dX3_addPoint_13 : decode cX3_addPoint 13 = .ok (.aload_n 0, 1) := by decide +kernel
theorem dX3_addPoint_14 : decode cX3_addPoint 14 = .ok (.getfield 40, 3) := by decide +kernel
theorem dX3_addPoint_17 : decode cX3_addPoint 17 = .ok (.iload_n 1, 1) := by decide +kernel
theorem dX3_addPoint_18 : decode cX3_addPoint 18 = .ok (.bastore, 1) := by decide +kernel
theorem dX3_addPoint_19 : decode cX3_addPoint 19 = .ok (.aload_n 0, 1) := by decide +kernel
theorem dX3_addPoint_20 : decode cX3_addPoint 20 = .ok (.dup, 1) := by decide +kernel
theorem dX3_addPoint_21 : decode cX3_addPoint 21 = .ok (.getfield 40, 3) := by decide +kernel
theorem dX3_addPoint_24 : decode cX3_addPoint 24 = .ok (.iconst 1, 1) := by decide +kernel
theorem dX3_addPoint_25 : decode cX3_addPoint 25 = .ok (.iadd, 1) := by decide +kernel
theorem dX3_addPoint_26 : decode cX3_addPoint 26 = .ok (.putfield 40, 3) := by decide +kernel
theorem dX3_addPoint_29 : decode cX3_addPoint 29 = .ok (.return_, 1) := by decide +kernel
theorem dX3_addArc_0 : decode cX3_addArc 0 = .ok (.aload_n 0, 1) := by decide +kernel
theorem dX3_addArc_1 : decode cX3_addArc 1 = .ok (.getfield 44, 3) := by decide +kernel
theorem dX3_addArc_4 : decode cX3_addArc 4 = .ok (.bipush 24, 2) := by decide +kernel
theorem dX3_addArc_6 : decode cX3_addArc 6 = .ok (.if_icmp .ge 43, 3) := by decide +kernel
theorem dX3_addArc_9 : decode cX3_addArc 9 = .ok (.aload_n 0, 1) := by decide +kernel
theorem dX3_addArc_10 : decode cX3_addArc 10 = .ok (.getfield 15, 3) := by decide +kernel
theorem dX3_addArc_13 : decode cX3_addArc 13 = .ok (.aload_n 0, 1) := by decide +kernel
theorem dX3_addArc_14 : decode cX3_addArc 14 = .ok (.getfield 44, 3) := by decide +kernel
theorem dX3_addArc_17 : decode cX3_addArc 17 = .ok (.iload_n 1, 1) := by decide +kernel
theorem dX3_addArc_18 : decode cX3_addArc 18 = .ok (.iastore, 1) := by decide +kernel
theorem dX3_addArc_19 : decode cX3_addArc 19 = .ok (.aload_n 0, 1) := by decide +kernel
theorem dX3_addArc_20 : decode cX3_addArc 20 = .ok (.getfield 19, 3) := by decide +kernel
theorem dX3_addArc_23 : decode cX3_addArc 23 = .ok (.aload_n 0, 1) := by decide +kernel
theorem dX3_addArc_24 : decode cX3_addArc 24 = .ok (.getfield 44, 3) := by decide +kernel
theorem dX3_addArc_27 : decode cX3_addArc 27 = .ok (.iload_n 2, 1) := by decide +kernel
theorem dX3_addArc_28 : decode cX3_addArc 28 = .ok (.iastore, 1) := by decide +kernel
theorem dX3_addArc_29 : decode cX3_addArc 29 = .ok (.aload_n 0, 1) := by decide +kernel
theorem dX3_addArc_30 : decode cX3_addArc 30 = .ok (.getfield 22, 3) := by decide +kernel
theorem dX3_addArc_33 : decode cX3_addArc 33 = .ok (.aload_n 0, 1) := by decide +kernel
theorem dX3_addArc_34 : decode cX3_addArc 34 = .ok (.getfield 44, 3) := by decide +kernel
theorem dX3_addArc_37 : decode cX3_addArc 37 = .ok (.iload_n 3, 1) := by decide +kernel
theorem dX3_addArc_38 : decode cX3_addArc 38 = .ok (.iastore, 1) := by decide +kernel
theorem dX3_addArc_39 : decode cX3_addArc 39 = .ok (.aload_n 0, 1) := by decide +kernel
theorem dX3_addArc_40 : decode cX3_addArc 40 = .ok (.dup, 1) := by decide +kernel
theorem dX3_addArc_41 : decode cX3_addArc 41 = .ok (.getfield 44, 3) := by decide +kernel
theorem dX3_addArc_44 : decode cX3_addArc 44 = .ok (.iconst 1, 1) := by decide +kernel
theorem dX3_addArc_45 : decode cX3_addArc 45 = .ok (.iadd, 1) := by decide +kernel
theorem dX3_addArc_46 : decode cX3_addArc 46 = .ok (.putfield 44, 3) := by decide +kernel
theorem dX3_addArc_49 : decode cX3_addArc 49 = .ok (.return_, 1) := by decide +kernel
theorem dX3_addWindow_0 : decode cX3_addWindow 0 = .ok (.aload_n 0, 1) := by decide +kernel
theorem dX3_addWindow_1 : decode cX3_addWindow 1 = .ok (.getfield 47, 3) := by decide +kernel
theorem dX3_addWindow_4 : decode cX3_addWindow 4 = .ok (.bipush 12, 2) := by decide +kernel
theorem dX3_addWindow_6 : decode cX3_addWindow 6 = .ok (.if_icmp .ge 33, 3) := by decide +kernel
theorem dX3_addWindow_9 : decode cX3_addWindow 9 = .ok (.aload_n 0, 1) := by decide +kernel
theorem dX3_addWindow_10 : decode cX3_addWindow 10 = .ok (.getfield 25, 3) := by decide +kernel
theorem dX3_addWindow_13 : decode cX3_addWindow 13 = .ok (.aload_n 0, 1) := by decide +kernel
theorem dX3_addWindow_14 : decode cX3_addWindow 14 = .ok (.getfield 47, 3) := by decide +kernel
theorem dX3_addWindow_17 : decode cX3_addWindow 17 = .ok (.iload_n 1, 1) := by decide +kernel
theorem dX3_addWindow_18 : decode cX3_addWindow 18 = .ok (.iastore, 1) := by decide +kernel
theorem dX3_addWindow_19 : decode cX3_addWindow 19 = .ok (.aload_n 0, 1) := by decide +kernel
theorem dX3_addWindow_20 : decode cX3_addWindow 20 = .ok (.getfield 28, 3) := by decide +kernel
theorem dX3_addWindow_23 : decode cX3_addWindow 23 = .ok (.aload_n 0, 1) := by decide +kernel
theorem dX3_addWindow_24 : decode cX3_addWindow 24 = .ok (.getfield 47, 3) := by decide +kernel
theorem dX3_addWindow_27 : decode cX3_addWindow 27 = .ok (.iload_n 2, 1) := by decide +kernel
theorem dX3_addWindow_28 : decode cX3_addWindow 28 = .ok (.iastore, 1) := by decide +kernel
theorem dX3_addWindow_29 : decode cX3_addWindow 29 = .ok (.aload_n 0, 1) := by decide +kernel
theorem dX3_addWindow_30 : decode cX3_addWindow 30 = .ok (.dup, 1) := by decide +kernel
theorem dX3_addWindow_31 : decode cX3_addWindow 31 = .ok (.getfield 47, 3) := by decide +kernel
theorem dX3_addWindow_34 : decode cX3_addWindow 34 = .ok (.iconst 1, 1) := by decide +kernel
theorem dX3_addWindow_35 : decode cX3_addWindow 35 = .ok (.iadd, 1) := by decide +kernel
theorem dX3_addWindow_36 : decode cX3_addWindow 36 = .ok (.putfield 47, 3) := by decide +kernel
theorem dX3_addWindow_39 : decode cX3_addWindow 39 = .ok (.return_, 1) := by decide +kernel
theorem dX3_addRule_0 : decode cX3_addRule 0 = .ok (.aload_n 0, 1) := by decide +kernel
theorem dX3_addRule_1 : decode cX3_addRule 1 = .ok (.getfield 50, 3) := by decide +kernel
theorem dX3_addRule_4 : decode cX3_addRule 4 = .ok (.bipush 8, 2) := by decide +kernel
theorem dX3_addRule_6 : decode cX3_addRule 6 = .ok (.if_icmp .ge 43, 3) := by decide +kernel
theorem dX3_addRule_9 : decode cX3_addRule 9 = .ok (.aload_n 0, 1) := by decide +kernel
theorem dX3_addRule_10 : decode cX3_addRule 10 = .ok (.getfield 31, 3) := by decide +kernel
theorem dX3_addRule_13 : decode cX3_addRule 13 = .ok (.aload_n 0, 1) := by decide +kernel
theorem dX3_addRule_14 : decode cX3_addRule 14 = .ok (.getfield 50, 3) := by decide +kernel
theorem dX3_addRule_17 : decode cX3_addRule 17 = .ok (.iload_n 1, 1) := by decide +kernel
theorem dX3_addRule_18 : decode cX3_addRule 18 = .ok (.iastore, 1) := by decide +kernel
theorem dX3_addRule_19 : decode cX3_addRule 19 = .ok (.aload_n 0, 1) := by decide +kernel
theorem dX3_addRule_20 : decode cX3_addRule 20 = .ok (.getfield 34, 3) := by decide +kernel
theorem dX3_addRule_23 : decode cX3_addRule 23 = .ok (.aload_n 0, 1) := by decide +kernel
theorem dX3_addRule_24 : decode cX3_addRule 24 = .ok (.getfield 50, 3) := by decide +kernel
theorem dX3_addRule_27 : decode cX3_addRule 27 = .ok (.iload_n 2, 1) := by decide +kernel
theorem dX3_addRule_28 : decode cX3_addRule 28 = .ok (.iastore, 1) := by decide +kernel
theorem dX3_addRule_29 : decode cX3_addRule 29 = .ok (.aload_n 0, 1) := by decide +kernel
theorem dX3_addRule_30 : decode cX3_addRule 30 = .ok (.getfield 37, 3) := by decide +kernel
theorem dX3_addRule_33 : decode cX3_addRule 33 = .ok (.aload_n 0, 1) := by decide +kernel
theorem dX3_addRule_34 : decode cX3_addRule 34 = .ok (.getfield 50, 3) := by decide +kernel
theorem dX3_addRule_37 : decode cX3_addRule 37 = .ok (.iload_n 3, 1) := by decide +kernel
theorem dX3_addRule_38 : decode cX3_addRule 38 = .ok (.iastore, 1) := by decide +kernel
theorem dX3_addRule_39 : decode cX3_addRule 39 = .ok (.aload_n 0, 1) := by decide +kernel
theorem dX3_addRule_40 : decode cX3_addRule 40 = .ok (.dup, 1) := by decide +kernel
theorem dX3_addRule_41 : decode cX3_addRule 41 = .ok (.getfield 50, 3) := by decide +kernel
theorem dX3_addRule_44 : decode cX3_addRule 44 = .ok (.iconst 1, 1) := by decide +kernel
theorem dX3_addRule_45 : decode cX3_addRule 45 = .ok (.iadd, 1) := by decide +kernel
theorem dX3_addRule_46 : decode cX3_addRule 46 = .ok (.putfield 50, 3) := by decide +kernel
theorem dX3_addRule_49 : decode cX3_addRule 49 = .ok (.return_, 1) := by decide +kernel
theorem dX3_copyFrom_0 : decode cX3_copyFrom 0 = .ok (.aload_n 0, 1) := by decide +kernel
theorem dX3_copyFrom_1 : decode cX3_copyFrom 1 = .ok (.invokevirtual 53, 3) := by decide +kernel
theorem dX3_copyFrom_4 : decode cX3_copyFrom 4 = .ok (.iconst 0, 1) := by decide +kernel
theorem dX3_copyFrom_5 : decode cX3_copyFrom 5 = .ok (.istore_n 2, 1) := by decide +kernel
theorem dX3_copyFrom_6 : decode cX3_copyFrom 6 = .ok (.iload_n 2, 1) := by decide +kernel
theorem dX3_copyFrom_7 : decode cX3_copyFrom 7 = .ok (.aload_n 1, 1) := by decide +kernel
theorem dX3_copyFrom_8 : decode cX3_copyFrom 8 = .ok (.getfield 40, 3) := by decide +kernel
theorem dX3_copyFrom_11 : decode cX3_copyFrom 11 = .ok (.if_icmp .ge 19, 3) := by decide +kernel
theorem dX3_copyFrom_14 : decode cX3_copyFrom 14 = .ok (.aload_n 0, 1) := by decide +kernel
theorem dX3_copyFrom_15 : decode cX3_copyFrom 15 = .ok (.aload_n 1, 1) := by decide +kernel
theorem dX3_copyFrom_16 : decode cX3_copyFrom 16 = .ok (.getfield 9, 3) := by decide +kernel
theorem dX3_copyFrom_19 : decode cX3_copyFrom 19 = .ok (.iload_n 2, 1) := by decide +kernel
theorem dX3_copyFrom_20 : decode cX3_copyFrom 20 = .ok (.baload, 1) := by decide +kernel
theorem dX3_copyFrom_21 : decode cX3_copyFrom 21 = .ok (.invokevirtual 56, 3) := by decide +kernel
theorem dX3_copyFrom_24 : decode cX3_copyFrom 24 = .ok (.iinc 2 1, 3) := by decide +kernel
theorem dX3_copyFrom_27 : decode cX3_copyFrom 27 = .ok (.goto (-21), 3) := by decide +kernel
theorem dX3_copyFrom_30 : decode cX3_copyFrom 30 = .ok (.iconst 0, 1) := by decide +kernel
theorem dX3_copyFrom_31 : decode cX3_copyFrom 31 = .ok (.istore_n 2, 1) := by decide +kernel
theorem dX3_copyFrom_32 : decode cX3_copyFrom 32 = .ok (.iload_n 2, 1) := by decide +kernel
theorem dX3_copyFrom_33 : decode cX3_copyFrom 33 = .ok (.aload_n 1, 1) := by decide +kernel
theorem dX3_copyFrom_34 : decode cX3_copyFrom 34 = .ok (.getfield 44, 3) := by decide +kernel
theorem dX3_copyFrom_37 : decode cX3_copyFrom 37 = .ok (.if_icmp .ge 31, 3) := by decide +kernel
theorem dX3_copyFrom_40 : decode cX3_copyFrom 40 = .ok (.aload_n 0, 1) := by decide +kernel
theorem dX3_copyFrom_41 : decode cX3_copyFrom 41 = .ok (.aload_n 1, 1) := by decide +kernel
theorem dX3_copyFrom_42 : decode cX3_copyFrom 42 = .ok (.getfield 15, 3) := by decide +kernel
theorem dX3_copyFrom_45 : decode cX3_copyFrom 45 = .ok (.iload_n 2, 1) := by decide +kernel
theorem dX3_copyFrom_46 : decode cX3_copyFrom 46 = .ok (.iaload, 1) := by decide +kernel
theorem dX3_copyFrom_47 : decode cX3_copyFrom 47 = .ok (.aload_n 1, 1) := by decide +kernel
theorem dX3_copyFrom_48 : decode cX3_copyFrom 48 = .ok (.getfield 19, 3) := by decide +kernel
theorem dX3_copyFrom_51 : decode cX3_copyFrom 51 = .ok (.iload_n 2, 1) := by decide +kernel
theorem dX3_copyFrom_52 : decode cX3_copyFrom 52 = .ok (.iaload, 1) := by decide +kernel
theorem dX3_copyFrom_53 : decode cX3_copyFrom 53 = .ok (.aload_n 1, 1) := by decide +kernel
theorem dX3_copyFrom_54 : decode cX3_copyFrom 54 = .ok (.getfield 22, 3) := by decide +kernel
theorem dX3_copyFrom_57 : decode cX3_copyFrom 57 = .ok (.iload_n 2, 1) := by decide +kernel
theorem dX3_copyFrom_58 : decode cX3_copyFrom 58 = .ok (.iaload, 1) := by decide +kernel
theorem dX3_copyFrom_59 : decode cX3_copyFrom 59 = .ok (.invokevirtual 60, 3) := by decide +kernel
theorem dX3_copyFrom_62 : decode cX3_copyFrom 62 = .ok (.iinc 2 1, 3) := by decide +kernel
theorem dX3_copyFrom_65 : decode cX3_copyFrom 65 = .ok (.goto (-33), 3) := by decide +kernel
theorem dX3_copyFrom_68 : decode cX3_copyFrom 68 = .ok (.iconst 0, 1) := by decide +kernel
theorem dX3_copyFrom_69 : decode cX3_copyFrom 69 = .ok (.istore_n 2, 1) := by decide +kernel
theorem dX3_copyFrom_70 : decode cX3_copyFrom 70 = .ok (.iload_n 2, 1) := by decide +kernel
theorem dX3_copyFrom_71 : decode cX3_copyFrom 71 = .ok (.aload_n 1, 1) := by decide +kernel
theorem dX3_copyFrom_72 : decode cX3_copyFrom 72 = .ok (.getfield 47, 3) := by decide +kernel
theorem dX3_copyFrom_75 : decode cX3_copyFrom 75 = .ok (.if_icmp .ge 25, 3) := by decide +kernel
theorem dX3_copyFrom_78 : decode cX3_copyFrom 78 = .ok (.aload_n 0, 1) := by decide +kernel
theorem dX3_copyFrom_79 : decode cX3_copyFrom 79 = .ok (.aload_n 1, 1) := by decide +kernel
theorem dX3_copyFrom_80 : decode cX3_copyFrom 80 = .ok (.getfield 25, 3) := by decide +kernel
theorem dX3_copyFrom_83 : decode cX3_copyFrom 83 = .ok (.iload_n 2, 1) := by decide +kernel
theorem dX3_copyFrom_84 : decode cX3_copyFrom 84 = .ok (.iaload, 1) := by decide +kernel
theorem dX3_copyFrom_85 : decode cX3_copyFrom 85 = .ok (.aload_n 1, 1) := by decide +kernel
theorem dX3_copyFrom_86 : decode cX3_copyFrom 86 = .ok (.getfield 28, 3) := by decide +kernel
theorem dX3_copyFrom_89 : decode cX3_copyFrom 89 = .ok (.iload_n 2, 1) := by decide +kernel
theorem dX3_copyFrom_90 : decode cX3_copyFrom 90 = .ok (.iaload, 1) := by decide +kernel
theorem dX3_copyFrom_91 : decode cX3_copyFrom 91 = .ok (.invokevirtual 64, 3) := by decide +kernel
theorem dX3_copyFrom_94 : decode cX3_copyFrom 94 = .ok (.iinc 2 1, 3) := by decide +kernel
theorem dX3_copyFrom_97 : decode cX3_copyFrom 97 = .ok (.goto (-27), 3) := by decide +kernel
theorem dX3_copyFrom_100 : decode cX3_copyFrom 100 = .ok (.iconst 0, 1) := by decide +kernel
theorem dX3_copyFrom_101 : decode cX3_copyFrom 101 = .ok (.istore_n 2, 1) := by decide +kernel
theorem dX3_copyFrom_102 : decode cX3_copyFrom 102 = .ok (.iload_n 2, 1) := by decide +kernel
theorem dX3_copyFrom_103 : decode cX3_copyFrom 103 = .ok (.aload_n 1, 1) := by decide +kernel
theorem dX3_copyFrom_104 : decode cX3_copyFrom 104 = .ok (.getfield 50, 3) := by decide +kernel
theorem dX3_copyFrom_107 : decode cX3_copyFrom 107 = .ok (.if_icmp .ge 31, 3) := by decide +kernel
theorem dX3_copyFrom_110 : decode cX3_copyFrom 110 = .ok (.aload_n 0, 1) := by decide +kernel
theorem dX3_copyFrom_111 : decode cX3_copyFrom 111 = .ok (.aload_n 1, 1) := by decide +kernel
theorem dX3_copyFrom_112 : decode cX3_copyFrom 112 = .ok (.getfield 31, 3) := by decide +kernel
theorem dX3_copyFrom_115 : decode cX3_copyFrom 115 = .ok (.iload_n 2, 1) := by decide +kernel
theorem dX3_copyFrom_116 : decode cX3_copyFrom 116 = .ok (.iaload, 1) := by decide +kernel
theorem dX3_copyFrom_117 : decode cX3_copyFrom 117 = .ok (.aload_n 1, 1) := by decide +kernel
theorem dX3_copyFrom_118 : decode cX3_copyFrom 118 = .ok (.getfield 34, 3) := by decide +kernel
theorem dX3_copyFrom_121 : decode cX3_copyFrom 121 = .ok (.iload_n 2, 1) := by decide +kernel
theorem dX3_copyFrom_122 : decode cX3_copyFrom 122 = .ok (.iaload, 1) := by decide +kernel
theorem dX3_copyFrom_123 : decode cX3_copyFrom 123 = .ok (.aload_n 1, 1) := by decide +kernel
theorem dX3_copyFrom_124 : decode cX3_copyFrom 124 = .ok (.getfield 37, 3) := by decide +kernel
theorem dX3_copyFrom_127 : decode cX3_copyFrom 127 = .ok (.iload_n 2, 1) := by decide +kernel
theorem dX3_copyFrom_128 : decode cX3_copyFrom 128 = .ok (.iaload, 1) := by decide +kernel
theorem dX3_copyFrom_129 : decode cX3_copyFrom 129 = .ok (.invokevirtual 68, 3) := by decide +kernel
theorem dX3_copyFrom_132 : decode cX3_copyFrom 132 = .ok (.iinc 2 1, 3) := by decide +kernel
theorem dX3_copyFrom_135 : decode cX3_copyFrom 135 = .ok (.goto (-33), 3) := by decide +kernel
theorem dX3_copyFrom_138 : decode cX3_copyFrom 138 = .ok (.return_, 1) := by decide +kernel
theorem dX4_init_0 : decode cX4_init 0 = .ok (.aload_n 0, 1) := by decide +kernel
theorem dX4_init_1 : decode cX4_init 1 = .ok (.invokespecial 3, 3) := by decide +kernel
theorem dX4_init_4 : decode cX4_init 4 = .ok (.aload_n 0, 1) := by decide +kernel
theorem dX4_init_5 : decode cX4_init 5 = .ok (.bipush 12, 2) := by decide +kernel
theorem dX4_init_7 : decode cX4_init 7 = .ok (.newarray .int, 2) := by decide +kernel
theorem dX4_init_9 : decode cX4_init 9 = .ok (.putfield 9, 3) := by decide +kernel
theorem dX4_init_12 : decode cX4_init 12 = .ok (.aload_n 0, 1) := by decide +kernel
theorem dX4_init_13 : decode cX4_init 13 = .ok (.bipush 12, 2) := by decide +kernel
theorem dX4_init_15 : decode cX4_init 15 = .ok (.newarray .int, 2) := by decide +kernel
theorem dX4_init_17 : decode cX4_init 17 = .ok (.putfield 15, 3) := by decide +kernel
theorem dX4_init_20 : decode cX4_init 20 = .ok (.aload_n 0, 1) := by decide +kernel
theorem dX4_init_21 : decode cX4_init 21 = .ok (.iconst 3, 1) := by decide +kernel
theorem dX4_init_22 : decode cX4_init 22 = .ok (.newarray .int, 2) := by decide +kernel
theorem dX4_init_24 : decode cX4_init 24 = .ok (.putfield 18, 3) := by decide +kernel
theorem dX4_init_27 : decode cX4_init 27 = .ok (.aload_n 0, 1) := by decide +kernel
theorem dX4_init_28 : decode cX4_init 28 = .ok (.aload_n 1, 1) := by decide +kernel
theorem dX4_init_29 : decode cX4_init 29 = .ok (.putfield 21, 3) := by decide +kernel
theorem dX4_init_32 : decode cX4_init 32 = .ok (.aload_n 0, 1) := by decide +kernel
theorem dX4_init_33 : decode cX4_init 33 = .ok (.new 25, 3) := by decide +kernel
theorem dX4_init_36 : decode cX4_init 36 = .ok (.dup, 1) := by decide +kernel
theorem dX4_init_37 : decode cX4_init 37 = .ok (.aload_n 1, 1) := by decide +kernel
theorem dX4_init_38 : decode cX4_init 38 = .ok (.invokespecial 27, 3) := by decide +kernel
theorem dX4_init_41 : decode cX4_init 41 = .ok (.putfield 30, 3) := by decide +kernel
theorem dX4_init_44 : decode cX4_init 44 = .ok (.return_, 1) := by decide +kernel
theorem dX4_read_0 : decode cX4_read 0 = .ok (.aload_n 1, 1) := by decide +kernel
theorem dX4_read_1 : decode cX4_read 1 = .ok (.invokevirtual 34, 3) := by decide +kernel
theorem dX4_read_4 : decode cX4_read 4 = .ok (.aload_n 0, 1) := by decide +kernel
theorem dX4_read_5 : decode cX4_read 5 = .ok (.getfield 30, 3) := by decide +kernel
theorem dX4_read_8 : decode cX4_read 8 = .ok (.invokevirtual 39, 3) := by decide +kernel
theorem dX4_read_11 : decode cX4_read 11 = .ok (.iconst 1, 1) := by decide +kernel
theorem dX4_read_12 : decode cX4_read 12 = .ok (.istore_n 2, 1) := by decide +kernel
theorem dX4_read_13 : decode cX4_read 13 = .ok (.iconst 0, 1) := by decide +kernel
theorem dX4_read_14 : decode cX4_read 14 = .ok (.istore_n 3, 1) := by decide +kernel
theorem dX4_read_15 : decode cX4_read 15 = .ok (.iload_n 3, 1) := by decide +kernel
theorem dX4_read_16 : decode cX4_read 16 = .ok (.sipush 600, 3) := by decide +kernel
theorem dX4_read_19 : decode cX4_read 19 = .ok (.if_icmp .ge 173, 3) := by decide +kernel
theorem dX4_read_22 : decode cX4_read 22 = .ok (.iload_n 2, 1) := by decide +kernel
theorem dX4_read_23 : decode cX4_read 23 = .ok (.ifCond .eq 169, 3) := by decide +kernel
theorem dX4_read_26 : decode cX4_read 26 = .ok (.aload_n 0, 1) := by decide +kernel
theorem dX4_read_27 : decode cX4_read 27 = .ok (.getfield 30, 3) := by decide +kernel
theorem dX4_read_30 : decode cX4_read 30 = .ok (.getfield 42, 3) := by decide +kernel
theorem dX4_read_33 : decode cX4_read 33 = .ok (.iconst 4, 1) := by decide +kernel
theorem dX4_read_34 : decode cX4_read 34 = .ok (.if_icmp .eq 158, 3) := by decide +kernel
theorem dX4_read_37 : decode cX4_read 37 = .ok (.aload_n 0, 1) := by decide +kernel
theorem dX4_read_38 : decode cX4_read 38 = .ok (.getfield 30, 3) := by decide +kernel
theorem dX4_read_41 : decode cX4_read 41 = .ok (.ldc 46, 2) := by decide +kernel
theorem dX4_read_43 : decode cX4_read 43 = .ok (.invokevirtual 48, 3) := by decide +kernel
theorem dX4_read_46 : decode cX4_read 46 = .ok (.ifCond .eq 29, 3) := by decide +kernel
theorem dX4_read_49 : decode cX4_read 49 = .ok (.aload_n 1, 1) := by decide +kernel
theorem dX4_read_50 : decode cX4_read 50 = .ok (.getfield 52, 3) := by decide +kernel
theorem dX4_read_53 : decode cX4_read 53 = .ok (.bipush 12, 2) := by decide +kernel
theorem dX4_read_55 : decode cX4_read 55 = .ok (.if_icmp .ge 15, 3) := by decide +kernel
theorem dX4_read_58 : decode cX4_read 58 = .ok (.aload_n 0, 1) := by decide +kernel
theorem dX4_read_59 : decode cX4_read 59 = .ok (.aload_n 1, 1) := by decide +kernel
theorem dX4_read_60 : decode cX4_read 60 = .ok (.invokevirtual 55, 3) := by decide +kernel
theorem dX4_read_63 : decode cX4_read 63 = .ok (.ifCond .eq 7, 3) := by decide +kernel
theorem dX4_read_66 : decode cX4_read 66 = .ok (.iconst 1, 1) := by decide +kernel
theorem dX4_read_67 : decode cX4_read 67 = .ok (.goto 4, 3) := by decide +kernel
theorem dX4_read_70 : decode cX4_read 70 = .ok (.iconst 0, 1) := by decide +kernel
theorem dX4_read_71 : decode cX4_read 71 = .ok (.istore_n 2, 1) := by decide +kernel
theorem dX4_read_72 : decode cX4_read 72 = .ok (.goto 114, 3) := by decide +kernel
theorem dX4_read_75 : decode cX4_read 75 = .ok (.aload_n 0, 1) := by decide +kernel
theorem dX4_read_76 : decode cX4_read 76 = .ok (.getfield 30, 3) := by decide +kernel
theorem dX4_read_79 : decode cX4_read 79 = .ok (.ldc 59, 2) := by decide +kernel
theorem dX4_read_81 : decode cX4_read 81 = .ok (.invokevirtual 48, 3) := by decide +kernel
theorem dX4_read_84 : decode cX4_read 84 = .ok (.ifCond .eq 29, 3) := by decide +kernel
theorem dX4_read_87 : decode cX4_read 87 = .ok (.aload_n 1, 1) := by decide +kernel
theorem dX4_read_88 : decode cX4_read 88 = .ok (.getfield 61, 3) := by decide +kernel
theorem dX4_read_91 : decode cX4_read 91 = .ok (.bipush 24, 2) := by decide +kernel
theorem dX4_read_93 : decode cX4_read 93 = .ok (.if_icmp .ge 15, 3) := by decide +kernel
theorem dX4_read_96 : decode cX4_read 96 = .ok (.aload_n 0, 1) := by decide +kernel
theorem dX4_read_97 : decode cX4_read 97 = .ok (.aload_n 1, 1) := by decide +kernel
theorem dX4_read_98 : decode cX4_read 98 = .ok (.invokevirtual 64, 3) := by decide +kernel
theorem dX4_read_101 : decode cX4_read 101 = .ok (.ifCond .eq 7, 3) := by decide +kernel
theorem dX4_read_104 : decode cX4_read 104 = .ok (.iconst 1, 1) := by decide +kernel
theorem dX4_read_105 : decode cX4_read 105 = .ok (.goto 4, 3) := by decide +kernel
theorem dX4_read_108 : decode cX4_read 108 = .ok (.iconst 0, 1) := by decide +kernel
theorem dX4_read_109 : decode cX4_read 109 = .ok (.istore_n 2, 1) := by decide +kernel
theorem dX4_read_110 : decode cX4_read 110 = .ok (.goto 76, 3) := by decide +kernel
theorem dX4_read_113 : decode cX4_read 113 = .ok (.aload_n 0, 1) := by decide +kernel
theorem dX4_read_114 : decode cX4_read 114 = .ok (.getfield 30, 3) := by decide +kernel
theorem dX4_read_117 : decode cX4_read 117 = .ok (.ldc 67, 2) := by decide +kernel
theorem dX4_read_119 : decode cX4_read 119 = .ok (.invokevirtual 48, 3) := by decide +kernel
theorem dX4_read_122 : decode cX4_read 122 = .ok (.ifCond .eq 29, 3) := by decide +kernel
theorem dX4_read_125 : decode cX4_read 125 = .ok (.aload_n 1, 1) := by decide +kernel
theorem dX4_read_126 : decode cX4_read 126 = .ok (.getfield 69, 3) := by decide +kernel
theorem dX4_read_129 : decode cX4_read 129 = .ok (.bipush 12, 2) := by decide +kernel
theorem dX4_read_131 : decode cX4_read 131 = .ok (.if_icmp .ge 15, 3) := by decide +kernel
theorem dX4_read_134 : decode cX4_read 134 = .ok (.aload_n 0, 1) := by decide +kernel
theorem dX4_read_135 : decode cX4_read 135 = .ok (.aload_n 1, 1) := by decide +kernel
theorem dX4_read_136 : decode cX4_read 136 = .ok (.invokevirtual 72, 3) := by decide +kernel
theorem dX4_read_139 : decode cX4_read 139 = .ok (.ifCond .eq 7, 3) := by decide +kernel
theorem dX4_read_142 : decode cX4_read 142 = .ok (.iconst 1, 1) := by decide +kernel
theorem dX4_read_143 : decode cX4_read 143 = .ok (.goto 4, 3) := by decide +kernel
theorem dX4_read_146 : decode cX4_read 146 = .ok (.iconst 0, 1) := by decide +kernel
theorem dX4_read_147 : decode cX4_read 147 = .ok (.istore_n 2, 1) := by decide +kernel
theorem dX4_read_148 : decode cX4_read 148 = .ok (.goto 38, 3) := by decide +kernel
theorem dX4_read_151 : decode cX4_read 151 = .ok (.aload_n 0, 1) := by decide +kernel
theorem dX4_read_152 : decode cX4_read 152 = .ok (.getfield 30, 3) := by decide +kernel
theorem dX4_read_155 : decode cX4_read 155 = .ok (.ldc 75, 2) := by decide +kernel
theorem dX4_read_157 : decode cX4_read 157 = .ok (.invokevirtual 48, 3) := by decide +kernel
theorem dX4_read_160 : decode cX4_read 160 = .ok (.ifCond .eq 24, 3) := by decide +kernel
theorem dX4_read_163 : decode cX4_read 163 = .ok (.aload_n 1, 1) := by decide +kernel
theorem dX4_read_164 : decode cX4_read 164 = .ok (.getfield 77, 3) := by decide +kernel
theorem dX4_read_167 : decode cX4_read 167 = .ok (.bipush 8, 2) := by decide +kernel
theorem dX4_read_169 : decode cX4_read 169 = .ok (.if_icmp .ge 15, 3) := by decide +kernel
theorem dX4_read_172 : decode cX4_read 172 = .ok (.aload_n 0, 1) := by decide +kernel
theorem dX4_read_173 : decode cX4_read 173 = .ok (.aload_n 1, 1) := by decide +kernel
theorem dX4_read_174 : decode cX4_read 174 = .ok (.invokevirtual 80, 3) := by decide +kernel
theorem dX4_read_177 : decode cX4_read 177 = .ok (.ifCond .eq 7, 3) := by decide +kernel
theorem dX4_read_180 : decode cX4_read 180 = .ok (.iconst 1, 1) := by decide +kernel
theorem dX4_read_181 : decode cX4_read 181 = .ok (.goto 4, 3) := by decide +kernel
theorem dX4_read_184 : decode cX4_read 184 = .ok (.iconst 0, 1) := by decide +kernel
theorem dX4_read_185 : decode cX4_read 185 = .ok (.istore_n 2, 1) := by decide +kernel
theorem dX4_read_186 : decode cX4_read 186 = .ok (.iinc 3 1, 3) := by decide +kernel
theorem dX4_read_189 : decode cX4_read 189 = .ok (.goto (-174), 3) := by decide +kernel
theorem dX4_read_192 : decode cX4_read 192 = .ok (.iload_n 2, 1) := by decide +kernel
theorem dX4_read_193 : decode cX4_read 193 = .ok (.ifCond .ne 11, 3) := by decide +kernel
theorem dX4_read_196 : decode cX4_read 196 = .ok (.aload_n 0, 1) := by decide +kernel
theorem dX4_read_197 : decode cX4_read 197 = .ok (.getfield 30, 3) := by decide +kernel
theorem dX4_read_200 : decode cX4_read 200 = .ok (.getfield 83, 3) := by decide +kernel
theorem dX4_read_203 : decode cX4_read 203 = .ok (.ireturn, 1) := by decide +kernel
theorem dX4_read_204 : decode cX4_read 204 = .ok (.aload_n 1, 1) := by decide +kernel
theorem dX4_read_205 : decode cX4_read 205 = .ok (.getfield 52, 3) := by decide +kernel
theorem dX4_read_208 : decode cX4_read 208 = .ok (.ifCond .ne 13, 3) := by decide +kernel
theorem dX4_read_211 : decode cX4_read 211 = .ok (.aload_n 0, 1) := by decide +kernel
theorem dX4_read_212 : decode cX4_read 212 = .ok (.getfield 21, 3) := by decide +kernel
theorem dX4_read_215 : decode cX4_read 215 = .ok (.getfield 86, 3) := by decide +kernel
theorem dX4_read_218 : decode cX4_read 218 = .ok (.goto 4, 3) := by decide +kernel
theorem dX4_read_221 : decode cX4_read 221 = .ok (.iconst (-1), 1) := by decide +kernel
theorem dX4_read_222 : decode cX4_read 222 = .ok (.ireturn, 1) := by decide +kernel
theorem dX4_readPoint_0 : decode cX4_readPoint 0 = .ok (.aload_n 0, 1) := by decide +kernel
theorem dX4_readPoint_1 : decode cX4_readPoint 1 = .ok (.getfield 30, 3) := by decide +kernel
theorem dX4_readPoint_4 : decode cX4_readPoint 4 = .ok (.invokevirtual 91, 3) := by decide +kernel
theorem dX4_readPoint_7 : decode cX4_readPoint 7 = .ok (.aload_n 0, 1) := by decide +kernel
theorem dX4_readPoint_8 : decode cX4_readPoint 8 = .ok (.getfield 30, 3) := by decide +kernel
theorem dX4_readPoint_11 : decode cX4_readPoint 11 = .ok (.invokevirtual 94, 3) := by decide +kernel
theorem dX4_readPoint_14 : decode cX4_readPoint 14 = .ok (.ifCond .eq 15, 3) := by decide +kernel
theorem dX4_readPoint_17 : decode cX4_readPoint 17 = .ok (.aload_n 0, 1) := by decide +kernel
theorem dX4_readPoint_18 : decode cX4_readPoint 18 = .ok (.aload_n 1, 1) := by decide +kernel
theorem dX4_readPoint_19 : decode cX4_readPoint 19 = .ok (.getfield 52, 3) := by decide +kernel
theorem dX4_readPoint_22 : decode cX4_readPoint 22 = .ok (.invokevirtual 98, 3) := by decide +kernel
theorem dX4_readPoint_25 : decode cX4_readPoint 25 = .ok (.iconst (-1), 1) := by decide +kernel
theorem dX4_readPoint_26 : decode cX4_readPoint 26 = .ok (.if_icmp .eq 5, 3) := by decide +kernel
theorem dX4_readPoint_29 : decode cX4_readPoint 29 = .ok (.iconst 0, 1) := by decide +kernel
theorem dX4_readPoint_30 : decode cX4_readPoint 30 = .ok (.ireturn, 1) := by decide +kernel
theorem dX4_readPoint_31 : decode cX4_readPoint 31 = .ok (.aload_n 0, 1) := by decide +kernel
theorem dX4_readPoint_32 : decode cX4_readPoint 32 = .ok (.getfield 9, 3) := by decide +kernel
theorem dX4_readPoint_35 : decode cX4_readPoint 35 = .ok (.aload_n 1, 1) := by decide +kernel
theorem dX4_readPoint_36 : decode cX4_readPoint 36 = .ok (.getfield 52, 3) := by decide +kernel
theorem dX4_readPoint_39 : decode cX4_readPoint 39 = .ok (.aload_n 0, 1) := by decide +kernel
theorem dX4_readPoint_40 : decode cX4_readPoint 40 = .ok (.getfield 30, 3) := by decide +kernel
theorem dX4_readPoint_43 : decode cX4_readPoint 43 = .ok (.getfield 83, 3) := by decide +kernel
theorem dX4_readPoint_46 : decode cX4_readPoint 46 = .ok (.iastore, 1) := by decide +kernel
theorem dX4_readPoint_47 : decode cX4_readPoint 47 = .ok (.aload_n 0, 1) := by decide +kernel
theorem dX4_readPoint_48 : decode cX4_readPoint 48 = .ok (.getfield 15, 3) := by decide +kernel
theorem dX4_readPoint_51 : decode cX4_readPoint 51 = .ok (.aload_n 1, 1) := by decide +kernel
theorem dX4_readPoint_52 : decode cX4_readPoint 52 = .ok (.getfield 52, 3) := by decide +kernel
theorem dX4_readPoint_55 : decode cX4_readPoint 55 = .ok (.aload_n 0, 1) := by decide +kernel
theorem dX4_readPoint_56 : decode cX4_readPoint 56 = .ok (.getfield 30, 3) := by decide +kernel
theorem dX4_readPoint_59 : decode cX4_readPoint 59 = .ok (.getfield 102, 3) := by decide +kernel
theorem dX4_readPoint_62 : decode cX4_readPoint 62 = .ok (.iastore, 1) := by decide +kernel
theorem dX4_readPoint_63 : decode cX4_readPoint 63 = .ok (.aload_n 0, 1) := by decide +kernel
theorem dX4_readPoint_64 : decode cX4_readPoint 64 = .ok (.getfield 30, 3) := by decide +kernel
theorem dX4_readPoint_67 : decode cX4_readPoint 67 = .ok (.invokevirtual 91, 3) := by decide +kernel
theorem dX4_readPoint_70 : decode cX4_readPoint 70 = .ok (.aload_n 0, 1) := by decide +kernel
theorem dX4_readPoint_71 : decode cX4_readPoint 71 = .ok (.getfield 30, 3) := by decide +kernel
theorem dX4_readPoint_74 : decode cX4_readPoint 74 = .ok (.ldc 105, 2) := by decide +kernel
theorem dX4_readPoint_76 : decode cX4_readPoint 76 = .ok (.invokevirtual 48, 3) := by decide +kernel
theorem dX4_readPoint_79 : decode cX4_readPoint 79 = .ok (.istore_n 2, 1) := by decide +kernel
theorem dX4_readPoint_80 : decode cX4_readPoint 80 = .ok (.iload_n 2, 1) := by decide +kernel
theorem dX4_readPoint_81 : decode cX4_readPoint 81 = .ok (.ifCond .ne 17, 3) := by decide +kernel
theorem dX4_readPoint_84 : decode cX4_readPoint 84 = .ok (.aload_n 0, 1) := by decide +kernel
theorem dX4_readPoint_85 : decode cX4_readPoint 85 = .ok (.getfield 30, 3) := by decide +kernel
theorem dX4_readPoint_88 : decode cX4_readPoint 88 = .ok (.ldc 107, 2) := by decide +kernel
theorem dX4_readPoint_90 : decode cX4_readPoint 90 = .ok (.invokevirtual 48, 3) := by decide +kernel
theorem dX4_readPoint_93 : decode cX4_readPoint 93 = .ok (.ifCond .ne 5, 3) := by decide +kernel
theorem dX4_readPoint_96 : decode cX4_readPoint 96 = .ok (.iconst 0, 1) := by decide +kernel
theorem dX4_readPoint_97 : decode cX4_readPoint 97 = .ok (.ireturn, 1) := by decide +kernel
theorem dX4_readPoint_98 : decode cX4_readPoint 98 = .ok (.aload_n 0, 1) := by decide +kernel
theorem dX4_readPoint_99 : decode cX4_readPoint 99 = .ok (.getfield 30, 3) := by decide +kernel
theorem dX4_readPoint_102 : decode cX4_readPoint 102 = .ok (.invokevirtual 91, 3) := by decide +kernel
theorem dX4_readPoint_105 : decode cX4_readPoint 105 = .ok (.aload_n 0, 1) := by decide +kernel
theorem dX4_readPoint_106 : decode cX4_readPoint 106 = .ok (.invokevirtual 109, 3) := by decide +kernel
theorem dX4_readPoint_109 : decode cX4_readPoint 109 = .ok (.ifCond .ne 5, 3) := by decide +kernel
theorem dX4_readPoint_112 : decode cX4_readPoint 112 = .ok (.iconst 0, 1) := by decide +kernel
theorem dX4_readPoint_113 : decode cX4_readPoint 113 = .ok (.ireturn, 1) := by decide +kernel
theorem dX4_readPoint_114 : decode cX4_readPoint 114 = .ok (.aload_n 1, 1) := by decide +kernel
theorem dX4_readPoint_115 : decode cX4_readPoint 115 = .ok (.iload_n 2, 1) := by decide +kernel
theorem dX4_readPoint_116 : decode cX4_readPoint 116 = .ok (.invokevirtual 112, 3) := by decide +kernel
theorem dX4_readPoint_119 : decode cX4_readPoint 119 = .ok (.iconst 1, 1) := by decide +kernel
theorem dX4_readPoint_120 : decode cX4_readPoint 120 = .ok (.ireturn, 1) := by decide +kernel
theorem dX4_readArc_0 : decode cX4_readArc 0 = .ok (.aload_n 0, 1) := by decide +kernel
theorem dX4_readArc_1 : decode cX4_readArc 1 = .ok (.getfield 30, 3) := by decide +kernel
theorem dX4_readArc_4 : decode cX4_readArc 4 = .ok (.invokevirtual 91, 3) := by decide +kernel
theorem dX4_readArc_7 : decode cX4_readArc 7 = .ok (.aload_n 0, 1) := by decide +kernel
theorem dX4_readArc_8 : decode cX4_readArc 8 = .ok (.aload_n 1, 1) := by decide +kernel
theorem dX4_readArc_9 : decode cX4_readArc 9 = .ok (.getfield 52, 3) := by decide +kernel
theorem dX4_readArc_12 : decode cX4_readArc 12 = .ok (.invokevirtual 116, 3) := by decide +kernel
theorem dX4_readArc_15 : decode cX4_readArc 15 = .ok (.ifCond .ne 5, 3) := by decide +kernel
theorem dX4_readArc_18 : decode cX4_readArc 18 = .ok (.iconst 0, 1) := by decide +kernel
theorem dX4_readArc_19 : decode cX4_readArc 19 = .ok (.ireturn, 1) := by decide +kernel
theorem dX4_readArc_20 : decode cX4_readArc 20 = .ok (.aload_n 0, 1) := by decide +kernel
theorem dX4_readArc_21 : decode cX4_readArc 21 = .ok (.getfield 120, 3) := by decide +kernel
theorem dX4_readArc_24 : decode cX4_readArc 24 = .ok (.istore_n 2, 1) := by decide +kernel
theorem dX4_readArc_25 : decode cX4_readArc 25 = .ok (.aload_n 0, 1) := by decide +kernel
theorem dX4_readArc_26 : decode cX4_readArc 26 = .ok (.ldc 123, 2) := by decide +kernel
theorem dX4_readArc_28 : decode cX4_readArc 28 = .ok (.invokevirtual 125, 3) := by decide +kernel
theorem dX4_readArc_31 : decode cX4_readArc 31 = .ok (.ifCond .eq 14, 3) := by decide +kernel
theorem dX4_readArc_34 : decode cX4_readArc 34 = .ok (.aload_n 0, 1) := by decide +kernel
theorem dX4_readArc_35 : decode cX4_readArc 35 = .ok (.aload_n 1, 1) := by decide +kernel
theorem dX4_readArc_36 : decode cX4_readArc 36 = .ok (.getfield 52, 3) := by decide +kernel
theorem dX4_readArc_39 : decode cX4_readArc 39 = .ok (.invokevirtual 116, 3) := by decide +kernel
theorem dX4_readArc_42 : decode cX4_readArc 42 = .ok (.ifCond .ne 5, 3) := by decide +kernel
theorem dX4_readArc_45 : decode cX4_readArc 45 = .ok (.iconst 0, 1) := by decide +kernel
theorem dX4_readArc_46 : decode cX4_readArc 46 = .ok (.ireturn, 1) := by decide +kernel
theorem dX4_readArc_47 : decode cX4_readArc 47 = .ok (.aload_n 0, 1) := by decide +kernel
theorem dX4_readArc_48 : decode cX4_readArc 48 = .ok (.getfield 120, 3) := by decide +kernel
theorem dX4_readArc_51 : decode cX4_readArc 51 = .ok (.istore_n 3, 1) := by decide +kernel
theorem dX4_readArc_52 : decode cX4_readArc 52 = .ok (.aload_n 0, 1) := by decide +kernel
theorem dX4_readArc_53 : decode cX4_readArc 53 = .ok (.ldc 128, 2) := by decide +kernel
theorem dX4_readArc_55 : decode cX4_readArc 55 = .ok (.invokevirtual 125, 3) := by decide +kernel
theorem dX4_readArc_58 : decode cX4_readArc 58 = .ok (.ifCond .eq 13, 3) := by decide +kernel
theorem dX4_readArc_61 : decode cX4_readArc 61 = .ok (.aload_n 0, 1) := by decide +kernel
theorem dX4_readArc_62 : decode cX4_readArc 62 = .ok (.iconst 0, 1) := by decide +kernel
theorem dX4_readArc_63 : decode cX4_readArc 63 = .ok (.bipush 60, 2) := by decide +kernel
theorem dX4_readArc_65 : decode cX4_readArc 65 = .ok (.invokevirtual 130, 3) := by decide +kernel
theorem dX4_readArc_68 : decode cX4_readArc 68 = .ok (.ifCond .ne 5, 3) := by decide +kernel
theorem dX4_readArc_71 : decode cX4_readArc 71 = .ok (.iconst 0, 1) := by decide +kernel
theorem dX4_readArc_72 : decode cX4_readArc 72 = .ok (.ireturn, 1) := by decide +kernel
theorem dX4_readArc_73 : decode cX4_readArc 73 = .ok (.aload_n 0, 1) := by decide +kernel
theorem dX4_readArc_74 : decode cX4_readArc 74 = .ok (.getfield 120, 3) := by decide +kernel
theorem dX4_readArc_77 : decode cX4_readArc 77 = .ok (.istore 4, 2) := by decide +kernel
theorem dX4_readArc_79 : decode cX4_readArc 79 = .ok (.aload_n 0, 1) := by decide +kernel
theorem dX4_readArc_80 : decode cX4_readArc 80 = .ok (.invokevirtual 109, 3) := by decide +kernel
theorem dX4_readArc_83 : decode cX4_readArc 83 = .ok (.ifCond .ne 5, 3) := by decide +kernel
theorem dX4_readArc_86 : decode cX4_readArc 86 = .ok (.iconst 0, 1) := by decide +kernel
theorem dX4_readArc_87 : decode cX4_readArc 87 = .ok (.ireturn, 1) := by decide +kernel
theorem dX4_readArc_88 : decode cX4_readArc 88 = .ok (.aload_n 1, 1) := by decide +kernel
theorem dX4_readArc_89 : decode cX4_readArc 89 = .ok (.iload_n 2, 1) := by decide +kernel
theorem dX4_readArc_90 : decode cX4_readArc 90 = .ok (.iload_n 3, 1) := by decide +kernel
theorem dX4_readArc_91 : decode cX4_readArc 91 = .ok (.iload 4, 2) := by decide +kernel
theorem dX4_readArc_93 : decode cX4_readArc 93 = .ok (.invokevirtual 134, 3) := by decide +kernel
theorem dX4_readArc_96 : decode cX4_readArc 96 = .ok (.iconst 1, 1) := by decide +kernel
theorem dX4_readArc_97 : decode cX4_readArc 97 = .ok (.ireturn, 1) := by decide +kernel
theorem dX4_readWindow_0 : decode cX4_readWindow 0 = .ok (.aload_n 0, 1) := by decide +kernel
theorem dX4_readWindow_1 : decode cX4_readWindow 1 = .ok (.getfield 30, 3) := by decide +kernel
theorem dX4_readWindow_4 : decode cX4_readWindow 4 = .ok (.invokevirtual 91, 3) := by decide +kernel
theorem dX4_readWindow_7 : decode cX4_readWindow 7 = .ok (.aload_n 0, 1) := by decide +kernel
theorem dX4_readWindow_8 : decode cX4_readWindow 8 = .ok (.aload_n 1, 1) := by decide +kernel
theorem dX4_readWindow_9 : decode cX4_readWindow 9 = .ok (.getfield 52, 3) := by decide +kernel
theorem dX4_readWindow_12 : decode cX4_readWindow 12 = .ok (.invokevirtual 116, 3) := by decide +kernel
theorem dX4_readWindow_15 : decode cX4_readWindow 15 = .ok (.ifCond .ne 5, 3) := by decide +kernel
theorem dX4_readWindow_18 : decode cX4_readWindow 18 = .ok (.iconst 0, 1) := by decide +kernel
theorem dX4_readWindow_19 : decode cX4_readWindow 19 = .ok (.ireturn, 1) := by decide +kernel
theorem dX4_readWindow_20 : decode cX4_readWindow 20 = .ok (.aload_n 0, 1) := by decide +kernel
theorem dX4_readWindow_21 : decode cX4_readWindow 21 = .ok (.getfield 120, 3) := by decide +kernel
theorem dX4_readWindow_24 : decode cX4_readWindow 24 = .ok (.istore_n 2, 1) := by decide +kernel
theorem dX4_readWindow_25 : decode cX4_readWindow 25 = .ok (.iconst 0, 1) := by decide +kernel
theorem dX4_readWindow_26 : decode cX4_readWindow 26 = .ok (.istore_n 3, 1) := by decide +kernel
theorem dX4_readWindow_27 : decode cX4_readWindow 27 = .ok (.iload_n 3, 1) := by decide +kernel
theorem dX4_readWindow_28 : decode cX4_readWindow 28 = .ok (.iconst 3, 1) := by decide +kernel
theorem dX4_readWindow_29 : decode cX4_readWindow 29 = .ok (.if_icmp .ge 46, 3) := by decide +kernel
theorem dX4_readWindow_32 : decode cX4_readWindow 32 = .ok (.iload_n 3, 1) := by decide +kernel
theorem dX4_readWindow_33 : decode cX4_readWindow 33 = .ok (.ifCond .eq 14, 3) := by decide +kernel
theorem dX4_readWindow_36 : decode cX4_readWindow 36 = .ok (.aload_n 0, 1) := by decide +kernel
theorem dX4_readWindow_37 : decode cX4_readWindow 37 = .ok (.getfield 30, 3) := by decide +kernel
theorem dX4_readWindow_40 : decode cX4_readWindow 40 = .ok (.getfield 42, 3) := by decide +kernel
theorem dX4_readWindow_43 : decode cX4_readWindow 43 = .ok (.iconst 1, 1) := by decide +kernel
theorem dX4_readWindow_44 : decode cX4_readWindow 44 = .ok (.if_icmp .ne 31, 3) := by decide +kernel
theorem dX4_readWindow_47 : decode cX4_readWindow 47 = .ok (.aload_n 0, 1) := by decide +kernel
theorem dX4_readWindow_48 : decode cX4_readWindow 48 = .ok (.iconst 0, 1) := by decide +kernel
theorem dX4_readWindow_49 : decode cX4_readWindow 49 = .ok (.bipush 60, 2) := by decide +kernel
theorem dX4_readWindow_51 : decode cX4_readWindow 51 = .ok (.invokevirtual 130, 3) := by decide +kernel
theorem dX4_readWindow_54 : decode cX4_readWindow 54 = .ok (.ifCond .ne 5, 3) := by decide +kernel
theorem dX4_readWindow_57 : decode cX4_readWindow 57 = .ok (.iconst 0, 1) := by decide +kernel
theorem dX4_readWindow_58 : decode cX4_readWindow 58 = .ok (.ireturn, 1) := by decide +kernel
theorem dX4_readWindow_59 : decode cX4_readWindow 59 = .ok (.aload_n 0, 1) := by decide +kernel
theorem dX4_readWindow_60 : decode cX4_readWindow 60 = .ok (.getfield 18, 3) := by decide +kernel
theorem dX4_readWindow_63 : decode cX4_readWindow 63 = .ok (.iload_n 3, 1) := by decide +kernel
theorem dX4_readWindow_64 : decode cX4_readWindow 64 = .ok (.aload_n 0, 1) := by decide +kernel
theorem dX4_readWindow_65 : decode cX4_readWindow 65 = .ok (.getfield 120, 3) := by decide +kernel
theorem dX4_readWindow_68 : decode cX4_readWindow 68 = .ok (.iastore, 1) := by decide +kernel
theorem dX4_readWindow_69 : decode cX4_readWindow 69 = .ok (.iinc 3 1, 3) := by decide +kernel
theorem dX4_readWindow_72 : decode cX4_readWindow 72 = .ok (.goto (-45), 3) := by decide +kernel
theorem dX4_readWindow_75 : decode cX4_readWindow 75 = .ok (.iconst 1, 1) := by decide +kernel
theorem dX4_readWindow_76 : decode cX4_readWindow 76 = .ok (.istore 4, 2) := by decide +kernel
theorem dX4_readWindow_78 : decode cX4_readWindow 78 = .ok (.iload_n 3, 1) := by decide +kernel
theorem dX4_readWindow_79 : decode cX4_readWindow 79 = .ok (.iconst 1, 1) := by decide +kernel
theorem dX4_readWindow_80 : decode cX4_readWindow 80 = .ok (.if_icmp .le 29, 3) := by decide +kernel
theorem dX4_readWindow_83 : decode cX4_readWindow 83 = .ok (.aload_n 0, 1) := by decide +kernel
theorem dX4_readWindow_84 : decode cX4_readWindow 84 = .ok (.ldc 138, 2) := by decide +kernel
theorem dX4_readWindow_86 : decode cX4_readWindow 86 = .ok (.invokevirtual 125, 3) := by decide +kernel
theorem dX4_readWindow_89 : decode cX4_readWindow 89 = .ok (.ifCond .eq 12, 3) := by decide +kernel
theorem dX4_readWindow_92 : decode cX4_readWindow 92 = .ok (.aload_n 0, 1) := by decide +kernel
theorem dX4_readWindow_93 : decode cX4_readWindow 93 = .ok (.iconst 1, 1) := by decide +kernel
theorem dX4_readWindow_94 : decode cX4_readWindow 94 = .ok (.iload_n 3, 1) := by decide +kernel
theorem dX4_readWindow_95 : decode cX4_readWindow 95 = .ok (.invokevirtual 130, 3) := by decide +kernel
theorem dX4_readWindow_98 : decode cX4_readWindow 98 = .ok (.ifCond .ne 5, 3) := by decide +kernel
theorem dX4_readWindow_101 : decode cX4_readWindow 101 = .ok (.iconst 0, 1) := by decide +kernel
theorem dX4_readWindow_102 : decode cX4_readWindow 102 = .ok (.ireturn, 1) := by decide +kernel
theorem dX4_readWindow_103 : decode cX4_readWindow 103 = .ok (.aload_n 0, 1) := by decide +kernel
theorem dX4_readWindow_104 : decode cX4_readWindow 104 = .ok (.getfield 120, 3) := by decide +kernel
theorem dX4_readWindow_107 : decode cX4_readWindow 107 = .ok (.istore 4, 2) := by decide +kernel
theorem dX4_readWindow_109 : decode cX4_readWindow 109 = .ok (.aload_n 0, 1) := by decide +kernel
theorem dX4_readWindow_110 : decode cX4_readWindow 110 = .ok (.invokevirtual 109, 3) := by decide +kernel
theorem dX4_readWindow_113 : decode cX4_readWindow 113 = .ok (.ifCond .ne 5, 3) := by decide +kernel
theorem dX4_readWindow_116 : decode cX4_readWindow 116 = .ok (.iconst 0, 1) := by decide +kernel
theorem dX4_readWindow_117 : decode cX4_readWindow 117 = .ok (.ireturn, 1) := by decide +kernel
theorem dX4_readWindow_118 : decode cX4_readWindow 118 = .ok (.aload_n 1, 1) := by decide +kernel
theorem dX4_readWindow_119 : decode cX4_readWindow 119 = .ok (.iload_n 2, 1) := by decide +kernel
theorem dX4_readWindow_120 : decode cX4_readWindow 120 = .ok (.aload_n 0, 1) := by decide +kernel
theorem dX4_readWindow_121 : decode cX4_readWindow 121 = .ok (.iload_n 3, 1) := by decide +kernel
theorem dX4_readWindow_122 : decode cX4_readWindow 122 = .ok (.iload 4, 2) := by decide +kernel
theorem dX4_readWindow_124 : decode cX4_readWindow 124 = .ok (.invokevirtual 140, 3) := by decide +kernel
theorem dX4_readWindow_127 : decode cX4_readWindow 127 = .ok (.invokevirtual 144, 3) := by decide +kernel
theorem dX4_readWindow_130 : decode cX4_readWindow 130 = .ok (.iconst 1, 1) := by decide +kernel
theorem dX4_readWindow_131 : decode cX4_readWindow 131 = .ok (.ireturn, 1) := by decide +kernel
theorem dX4_readRule_0 : decode cX4_readRule 0 = .ok (.aload_n 0, 1) := by decide +kernel
theorem dX4_readRule_1 : decode cX4_readRule 1 = .ok (.getfield 30, 3) := by decide +kernel
theorem dX4_readRule_4 : decode cX4_readRule 4 = .ok (.invokevirtual 91, 3) := by decide +kernel
theorem dX4_readRule_7 : decode cX4_readRule 7 = .ok (.aload_n 1, 1) := by decide +kernel
theorem dX4_readRule_8 : decode cX4_readRule 8 = .ok (.getfield 69, 3) := by decide +kernel
theorem dX4_readRule_11 : decode cX4_readRule 11 = .ok (.iconst 1, 1) := by decide +kernel
theorem dX4_readRule_12 : decode cX4_readRule 12 = .ok (.isub, 1) := by decide +kernel
theorem dX4_readRule_13 : decode cX4_readRule 13 = .ok (.istore_n 2, 1) := by decide +kernel
theorem dX4_readRule_14 : decode cX4_readRule 14 = .ok (.aload_n 0, 1) := by decide +kernel
theorem dX4_readRule_15 : decode cX4_readRule 15 = .ok (.iconst 0, 1) := by decide +kernel
theorem dX4_readRule_16 : decode cX4_readRule 16 = .ok (.iload_n 2, 1) := by decide +kernel
theorem dX4_readRule_17 : decode cX4_readRule 17 = .ok (.invokevirtual 130, 3) := by decide +kernel
theorem dX4_readRule_20 : decode cX4_readRule 20 = .ok (.ifCond .ne 5, 3) := by decide +kernel
theorem dX4_readRule_23 : decode cX4_readRule 23 = .ok (.iconst 0, 1) := by decide +kernel
theorem dX4_readRule_24 : decode cX4_readRule 24 = .ok (.ireturn, 1) := by decide +kernel
theorem dX4_readRule_25 : decode cX4_readRule 25 = .ok (.aload_n 0, 1) := by decide +kernel
theorem dX4_readRule_26 : decode cX4_readRule 26 = .ok (.getfield 120, 3) := by decide +kernel
theorem dX4_readRule_29 : decode cX4_readRule 29 = .ok (.istore_n 3, 1) := by decide +kernel
theorem dX4_readRule_30 : decode cX4_readRule 30 = .ok (.aload_n 0, 1) := by decide +kernel
theorem dX4_readRule_31 : decode cX4_readRule 31 = .ok (.ldc 148, 2) := by decide +kernel
theorem dX4_readRule_33 : decode cX4_readRule 33 = .ok (.invokevirtual 125, 3) := by decide +kernel
theorem dX4_readRule_36 : decode cX4_readRule 36 = .ok (.ifCond .eq 20, 3) := by decide +kernel
theorem dX4_readRule_39 : decode cX4_readRule 39 = .ok (.aload_n 0, 1) := by decide +kernel
theorem dX4_readRule_40 : decode cX4_readRule 40 = .ok (.iload_n 3, 1) := by decide +kernel
theorem dX4_readRule_41 : decode cX4_readRule 41 = .ok (.invokevirtual 150, 3) := by decide +kernel
theorem dX4_readRule_44 : decode cX4_readRule 44 = .ok (.ifCond .ne 12, 3) := by decide +kernel
theorem dX4_readRule_47 : decode cX4_readRule 47 = .ok (.aload_n 0, 1) := by decide +kernel
theorem dX4_readRule_48 : decode cX4_readRule 48 = .ok (.iconst 0, 1) := by decide +kernel
theorem dX4_readRule_49 : decode cX4_readRule 49 = .ok (.iload_n 2, 1) := by decide +kernel
theorem dX4_readRule_50 : decode cX4_readRule 50 = .ok (.invokevirtual 130, 3) := by decide +kernel
theorem dX4_readRule_53 : decode cX4_readRule 53 = .ok (.ifCond .ne 5, 3) := by decide +kernel
theorem dX4_readRule_56 : decode cX4_readRule 56 = .ok (.iconst 0, 1) := by decide +kernel
theorem dX4_readRule_57 : decode cX4_readRule 57 = .ok (.ireturn, 1) := by decide +kernel
theorem dX4_readRule_58 : decode cX4_readRule 58 = .ok (.aload_n 0, 1) := by decide +kernel
theorem dX4_readRule_59 : decode cX4_readRule 59 = .ok (.getfield 120, 3) := by decide +kernel
theorem dX4_readRule_62 : decode cX4_readRule 62 = .ok (.istore 4, 2) := by decide +kernel
theorem dX4_readRule_64 : decode cX4_readRule 64 = .ok (.iconst (-1), 1) := by decide +kernel
theorem dX4_readRule_65 : decode cX4_readRule 65 = .ok (.istore 5, 2) := by decide +kernel
theorem dX4_readRule_67 : decode cX4_readRule 67 = .ok (.aload_n 0, 1) := by decide +kernel
theorem dX4_readRule_68 : decode cX4_readRule 68 = .ok (.getfield 30, 3) := by decide +kernel
theorem dX4_readRule_71 : decode cX4_readRule 71 = .ok (.ldc 153, 2) := by decide +kernel
theorem dX4_readRule_73 : decode cX4_readRule 73 = .ok (.invokevirtual 48, 3) := by decide +kernel
theorem dX4_readRule_76 : decode cX4_readRule 76 = .ok (.ifCond .eq 44, 3) := by decide +kernel
theorem dX4_readRule_79 : decode cX4_readRule 79 = .ok (.aload_n 0, 1) := by decide +kernel
theorem dX4_readRule_80 : decode cX4_readRule 80 = .ok (.getfield 30, 3) := by decide +kernel
theorem dX4_readRule_83 : decode cX4_readRule 83 = .ok (.invokevirtual 91, 3) := by decide +kernel
theorem dX4_readRule_86 : decode cX4_readRule 86 = .ok (.aload_n 0, 1) := by decide +kernel
theorem dX4_readRule_87 : decode cX4_readRule 87 = .ok (.iload_n 3, 1) := by decide +kernel
theorem dX4_readRule_88 : decode cX4_readRule 88 = .ok (.invokevirtual 150, 3) := by decide +kernel
theorem dX4_readRule_91 : decode cX4_readRule 91 = .ok (.ifCond .ne 21, 3) := by decide +kernel
theorem dX4_readRule_94 : decode cX4_readRule 94 = .ok (.aload_n 0, 1) := by decide +kernel
theorem dX4_readRule_95 : decode cX4_readRule 95 = .ok (.iload 4, 2) := by decide +kernel
theorem dX4_readRule_97 : decode cX4_readRule 97 = .ok (.invokevirtual 150, 3) := by decide +kernel
theorem dX4_readRule_100 : decode cX4_readRule 100 = .ok (.ifCond .ne 12, 3) := by decide +kernel
theorem dX4_readRule_103 : decode cX4_readRule 103 = .ok (.aload_n 0, 1) := by decide +kernel
theorem dX4_readRule_104 : decode cX4_readRule 104 = .ok (.iconst 0, 1) := by decide +kernel
theorem dX4_readRule_105 : decode cX4_readRule 105 = .ok (.iload_n 2, 1) := by decide +kernel
theorem dX4_readRule_106 : decode cX4_readRule 106 = .ok (.invokevirtual 130, 3) := by decide +kernel
theorem dX4_readRule_109 : decode cX4_readRule 109 = .ok (.ifCond .ne 5, 3) := by decide +kernel
theorem dX4_readRule_112 : decode cX4_readRule 112 = .ok (.iconst 0, 1) := by decide +kernel
theorem dX4_readRule_113 : decode cX4_readRule 113 = .ok (.ireturn, 1) := by decide +kernel
theorem dX4_readRule_114 : decode cX4_readRule 114 = .ok (.aload_n 0, 1) := by decide +kernel
theorem dX4_readRule_115 : decode cX4_readRule 115 = .ok (.getfield 120, 3) := by decide +kernel
theorem dX4_readRule_118 : decode cX4_readRule 118 = .ok (.istore 5, 2) := by decide +kernel
theorem dX4_readRule_120 : decode cX4_readRule 120 = .ok (.aload_n 0, 1) := by decide +kernel
theorem dX4_readRule_121 : decode cX4_readRule 121 = .ok (.invokevirtual 109, 3) := by decide +kernel
theorem dX4_readRule_124 : decode cX4_readRule 124 = .ok (.ifCond .ne 5, 3) := by decide +kernel
theorem dX4_readRule_127 : decode cX4_readRule 127 = .ok (.iconst 0, 1) := by decide +kernel
theorem dX4_readRule_128 : decode cX4_readRule 128 = .ok (.ireturn, 1) := by decide +kernel
theorem dX4_readRule_129 : decode cX4_readRule 129 = .ok (.aload_n 1, 1) := by decide +kernel
theorem dX4_readRule_130 : decode cX4_readRule 130 = .ok (.iload_n 3, 1) := by decide +kernel
theorem dX4_readRule_131 : decode cX4_readRule 131 = .ok (.iload 4, 2) := by decide +kernel
theorem dX4_readRule_133 : decode cX4_readRule 133 = .ok (.iload 5, 2) := by decide +kernel
theorem dX4_readRule_135 : decode cX4_readRule 135 = .ok (.invokevirtual 155, 3) := by decide +kernel
theorem dX4_readRule_138 : decode cX4_readRule 138 = .ok (.iconst 1, 1) := by decide +kernel
theorem dX4_readRule_139 : decode cX4_readRule 139 = .ok (.ireturn, 1) := by decide +kernel
theorem dX4_takeWord_0 : decode cX4_takeWord 0 = .ok (.aload_n 0, 1) := by decide +kernel
theorem dX4_takeWord_1 : decode cX4_takeWord 1 = .ok (.getfield 30, 3) := by decide +kernel
theorem dX4_takeWord_4 : decode cX4_takeWord 4 = .ok (.aload_n 1, 1) := by decide +kernel
theorem dX4_takeWord_5 : decode cX4_takeWord 5 = .ok (.invokevirtual 48, 3) := by decide +kernel
theorem dX4_takeWord_8 : decode cX4_takeWord 8 = .ok (.ifCond .ne 5, 3) := by decide +kernel
theorem dX4_takeWord_11 : decode cX4_takeWord 11 = .ok (.iconst 0, 1) := by decide +kernel
theorem dX4_takeWord_12 : decode cX4_takeWord 12 = .ok (.ireturn, 1) := by decide +kernel
theorem dX4_takeWord_13 : decode cX4_takeWord 13 = .ok (.aload_n 0, 1) := by decide +kernel
theorem dX4_takeWord_14 : decode cX4_takeWord 14 = .ok (.getfield 30, 3) := by decide +kernel
theorem dX4_takeWord_17 : decode cX4_takeWord 17 = .ok (.invokevirtual 91, 3) := by decide +kernel
theorem dX4_takeWord_20 : decode cX4_takeWord 20 = .ok (.iconst 1, 1) := by decide +kernel
theorem dX4_takeWord_21 : decode cX4_takeWord 21 = .ok (.ireturn, 1) := by decide +kernel
theorem dX4_takeSemicolon_0 : decode cX4_takeSemicolon 0 = .ok (.aload_n 0, 1) := by decide +kernel
theorem dX4_takeSemicolon_1 : decode cX4_takeSemicolon 1 = .ok (.getfield 30, 3) := by decide +kernel
theorem dX4_takeSemicolon_4 : decode cX4_takeSemicolon 4 = .ok (.getfield 42, 3) := by decide +kernel
theorem dX4_takeSemicolon_7 : decode cX4_takeSemicolon 7 = .ok (.iconst 2, 1) := by decide +kernel
theorem dX4_takeSemicolon_8 : decode cX4_takeSemicolon 8 = .ok (.if_icmp .eq 5, 3) := by decide +kernel
theorem dX4_takeSemicolon_11 : decode cX4_takeSemicolon 11 = .ok (.iconst 0, 1) := by decide +kernel
