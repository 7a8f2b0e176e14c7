theorem dX4_takeSemicolon_12 : decode cX4_takeSemicolon 12 = .ok (.ireturn, 1) := by decide +kernel
theorem dX4_takeSemicolon_13 : decode cX4_takeSemicolon 13 = .ok (.aload_n 0, 1) := by decide +kernel
theorem dX4_takeSemicolon_14 : decode cX4_takeSemicolon 14 = .ok (.getfield 30, 3) := by decide +kernel
theorem dX4_takeSemicolon_17 : decode cX4_takeSemicolon 17 = .ok (.invokevirtual 91, 3) := by decide +kernel
theorem dX4_takeSemicolon_20 : decode cX4_takeSemicolon 20 = .ok (.iconst 1, 1) := by decide +kernel
theorem dX4_takeSemicolon_21 : decode cX4_takeSemicolon 21 = .ok (.ireturn, 1) := by decide +kernel
theorem dX4_isNumber_0 : decode cX4_isNumber 0 = .ok (.aload_n 0, 1) := by decide +kernel
theorem dX4_isNumber_1 : decode cX4_isNumber 1 = .ok (.getfield 30, 3) := by decide +kernel
theorem dX4_isNumber_4 : decode cX4_isNumber 4 = .ok (.getfield 42, 3) := by decide +kernel
theorem dX4_isNumber_7 : decode cX4_isNumber 7 = .ok (.iconst 1, 1) := by decide +kernel
theorem dX4_isNumber_8 : decode cX4_isNumber 8 = .ok (.if_icmp .ne 18, 3) := by decide +kernel
theorem dX4_isNumber_11 : decode cX4_isNumber 11 = .ok (.aload_n 0, 1) := by decide +kernel
theorem dX4_isNumber_12 : decode cX4_isNumber 12 = .ok (.getfield 30, 3) := by decide +kernel
theorem dX4_isNumber_15 : decode cX4_isNumber 15 = .ok (.getfield 158, 3) := by decide +kernel
theorem dX4_isNumber_18 : decode cX4_isNumber 18 = .ok (.iload_n 1, 1) := by decide +kernel
theorem dX4_isNumber_19 : decode cX4_isNumber 19 = .ok (.if_icmp .ne 7, 3) := by decide +kernel
theorem dX4_isNumber_22 : decode cX4_isNumber 22 = .ok (.iconst 1, 1) := by decide +kernel
theorem dX4_isNumber_23 : decode cX4_isNumber 23 = .ok (.goto 4, 3) := by decide +kernel
theorem dX4_isNumber_26 : decode cX4_isNumber 26 = .ok (.iconst 0, 1) := by decide +kernel
theorem dX4_isNumber_27 : decode cX4_isNumber 27 = .ok (.ireturn, 1) := by decide +kernel
theorem dX4_takeNumber_0 : decode cX4_takeNumber 0 = .ok (.aload_n 0, 1) := by decide +kernel
theorem dX4_takeNumber_1 : decode cX4_takeNumber 1 = .ok (.getfield 30, 3) := by decide +kernel
theorem dX4_takeNumber_4 : decode cX4_takeNumber 4 = .ok (.getfield 42, 3) := by decide +kernel
theorem dX4_takeNumber_7 : decode cX4_takeNumber 7 = .ok (.iconst 1, 1) := by decide +kernel
theorem dX4_takeNumber_8 : decode cX4_takeNumber 8 = .ok (.if_icmp .ne 25, 3) := by decide +kernel
theorem dX4_takeNumber_11 : decode cX4_takeNumber 11 = .ok (.aload_n 0, 1) := by decide +kernel
theorem dX4_takeNumber_12 : decode cX4_takeNumber 12 = .ok (.getfield 30, 3) := by decide +kernel
theorem dX4_takeNumber_15 : decode cX4_takeNumber 15 = .ok (.getfield 158, 3) := by decide +kernel
theorem dX4_takeNumber_18 : decode cX4_takeNumber 18 = .ok (.iload_n 1, 1) := by decide +kernel
theorem dX4_takeNumber_19 : decode cX4_takeNumber 19 = .ok (.if_icmp .lt 14, 3) := by decide +kernel
theorem dX4_takeNumber_22 : decode cX4_takeNumber 22 = .ok (.aload_n 0, 1) := by decide +kernel
theorem dX4_takeNumber_23 : decode cX4_takeNumber 23 = .ok (.getfield 30, 3) := by decide +kernel
theorem dX4_takeNumber_26 : decode cX4_takeNumber 26 = .ok (.getfield 158, 3) := by decide +kernel
theorem dX4_takeNumber_29 : decode cX4_takeNumber 29 = .ok (.iload_n 2, 1) := by decide +kernel
theorem dX4_takeNumber_30 : decode cX4_takeNumber 30 = .ok (.if_icmp .le 5, 3) := by decide +kernel
theorem dX4_takeNumber_33 : decode cX4_takeNumber 33 = .ok (.iconst 0, 1) := by decide +kernel
theorem dX4_takeNumber_34 : decode cX4_takeNumber 34 = .ok (.ireturn, 1) := by decide +kernel
theorem dX4_takeNumber_35 : decode cX4_takeNumber 35 = .ok (.aload_n 0, 1) := by decide +kernel
theorem dX4_takeNumber_36 : decode cX4_takeNumber 36 = .ok (.aload_n 0, 1) := by decide +kernel
theorem dX4_takeNumber_37 : decode cX4_takeNumber 37 = .ok (.getfield 30, 3) := by decide +kernel
theorem dX4_takeNumber_40 : decode cX4_takeNumber 40 = .ok (.getfield 158, 3) := by decide +kernel
theorem dX4_takeNumber_43 : decode cX4_takeNumber 43 = .ok (.putfield 120, 3) := by decide +kernel
theorem dX4_takeNumber_46 : decode cX4_takeNumber 46 = .ok (.aload_n 0, 1) := by decide +kernel
theorem dX4_takeNumber_47 : decode cX4_takeNumber 47 = .ok (.getfield 30, 3) := by decide +kernel
theorem dX4_takeNumber_50 : decode cX4_takeNumber 50 = .ok (.invokevirtual 91, 3) := by decide +kernel
theorem dX4_takeNumber_53 : decode cX4_takeNumber 53 = .ok (.iconst 1, 1) := by decide +kernel
theorem dX4_takeNumber_54 : decode cX4_takeNumber 54 = .ok (.ireturn, 1) := by decide +kernel
theorem dX4_takePoint_0 : decode cX4_takePoint 0 = .ok (.aload_n 0, 1) := by decide +kernel
theorem dX4_takePoint_1 : decode cX4_takePoint 1 = .ok (.iload_n 1, 1) := by decide +kernel
theorem dX4_takePoint_2 : decode cX4_takePoint 2 = .ok (.invokevirtual 98, 3) := by decide +kernel
theorem dX4_takePoint_5 : decode cX4_takePoint 5 = .ok (.istore_n 2, 1) := by decide +kernel
theorem dX4_takePoint_6 : decode cX4_takePoint 6 = .ok (.iload_n 2, 1) := by decide +kernel
theorem dX4_takePoint_7 : decode cX4_takePoint 7 = .ok (.iconst (-1), 1) := by decide +kernel
theorem dX4_takePoint_8 : decode cX4_takePoint 8 = .ok (.if_icmp .ne 5, 3) := by decide +kernel
theorem dX4_takePoint_11 : decode cX4_takePoint 11 = .ok (.iconst 0, 1) := by decide +kernel
theorem dX4_takePoint_12 : decode cX4_takePoint 12 = .ok (.ireturn, 1) := by decide +kernel
theorem dX4_takePoint_13 : decode cX4_takePoint 13 = .ok (.aload_n 0, 1) := by decide +kernel
theorem dX4_takePoint_14 : decode cX4_takePoint 14 = .ok (.iload_n 2, 1) := by decide +kernel
theorem dX4_takePoint_15 : decode cX4_takePoint 15 = .ok (.putfield 120, 3) := by decide +kernel
theorem dX4_takePoint_18 : decode cX4_takePoint 18 = .ok (.aload_n 0, 1) := by decide +kernel
theorem dX4_takePoint_19 : decode cX4_takePoint 19 = .ok (.getfield 30, 3) := by decide +kernel
theorem dX4_takePoint_22 : decode cX4_takePoint 22 = .ok (.invokevirtual 91, 3) := by decide +kernel
theorem dX4_takePoint_25 : decode cX4_takePoint 25 = .ok (.iconst 1, 1) := by decide +kernel
theorem dX4_takePoint_26 : decode cX4_takePoint 26 = .ok (.ireturn, 1) := by decide +kernel
theorem dX4_findPoint_0 : decode cX4_findPoint 0 = .ok (.iconst 0, 1) := by decide +kernel
theorem dX4_findPoint_1 : decode cX4_findPoint 1 = .ok (.istore_n 2, 1) := by decide +kernel
theorem dX4_findPoint_2 : decode cX4_findPoint 2 = .ok (.iload_n 2, 1) := by decide +kernel
theorem dX4_findPoint_3 : decode cX4_findPoint 3 = .ok (.iload_n 1, 1) := by decide +kernel
theorem dX4_findPoint_4 : decode cX4_findPoint 4 = .ok (.if_icmp .ge 29, 3) := by decide +kernel
theorem dX4_findPoint_7 : decode cX4_findPoint 7 = .ok (.aload_n 0, 1) := by decide +kernel
theorem dX4_findPoint_8 : decode cX4_findPoint 8 = .ok (.getfield 30, 3) := by decide +kernel
theorem dX4_findPoint_11 : decode cX4_findPoint 11 = .ok (.getfield 42, 3) := by decide +kernel
theorem dX4_findPoint_14 : decode cX4_findPoint 14 = .ok (.ifCond .ne 13, 3) := by decide +kernel
theorem dX4_findPoint_17 : decode cX4_findPoint 17 = .ok (.aload_n 0, 1) := by decide +kernel
theorem dX4_findPoint_18 : decode cX4_findPoint 18 = .ok (.iload_n 2, 1) := by decide +kernel
theorem dX4_findPoint_19 : decode cX4_findPoint 19 = .ok (.invokevirtual 161, 3) := by decide +kernel
theorem dX4_findPoint_22 : decode cX4_findPoint 22 = .ok (.ifCond .eq 5, 3) := by decide +kernel
theorem dX4_findPoint_25 : decode cX4_findPoint 25 = .ok (.iload_n 2, 1) := by decide +kernel
theorem dX4_findPoint_26 : decode cX4_findPoint 26 = .ok (.ireturn, 1) := by decide +kernel
theorem dX4_findPoint_27 : decode cX4_findPoint 27 = .ok (.iinc 2 1, 3) := by decide +kernel
theorem dX4_findPoint_30 : decode cX4_findPoint 30 = .ok (.goto (-28), 3) := by decide +kernel
theorem dX4_findPoint_33 : decode cX4_findPoint 33 = .ok (.iconst (-1), 1) := by decide +kernel
theorem dX4_findPoint_34 : decode cX4_findPoint 34 = .ok (.ireturn, 1) := by decide +kernel
theorem dX4_isNamed_0 : decode cX4_isNamed 0 = .ok (.aload_n 0, 1) := by decide +kernel
theorem dX4_isNamed_1 : decode cX4_isNamed 1 = .ok (.getfield 15, 3) := by decide +kernel
theorem dX4_isNamed_4 : decode cX4_isNamed 4 = .ok (.iload_n 1, 1) := by decide +kernel
theorem dX4_isNamed_5 : decode cX4_isNamed 5 = .ok (.iaload, 1) := by decide +kernel
theorem dX4_isNamed_6 : decode cX4_isNamed 6 = .ok (.aload_n 0, 1) := by decide +kernel
theorem dX4_isNamed_7 : decode cX4_isNamed 7 = .ok (.getfield 9, 3) := by decide +kernel
theorem dX4_isNamed_10 : decode cX4_isNamed 10 = .ok (.iload_n 1, 1) := by decide +kernel
theorem dX4_isNamed_11 : decode cX4_isNamed 11 = .ok (.iaload, 1) := by decide +kernel
theorem dX4_isNamed_12 : decode cX4_isNamed 12 = .ok (.isub, 1) := by decide +kernel
theorem dX4_isNamed_13 : decode cX4_isNamed 13 = .ok (.istore_n 2, 1) := by decide +kernel
theorem dX4_isNamed_14 : decode cX4_isNamed 14 = .ok (.aload_n 0, 1) := by decide +kernel
theorem dX4_isNamed_15 : decode cX4_isNamed 15 = .ok (.getfield 30, 3) := by decide +kernel
theorem dX4_isNamed_18 : decode cX4_isNamed 18 = .ok (.getfield 102, 3) := by decide +kernel
theorem dX4_isNamed_21 : decode cX4_isNamed 21 = .ok (.aload_n 0, 1) := by decide +kernel
theorem dX4_isNamed_22 : decode cX4_isNamed 22 = .ok (.getfield 30, 3) := by decide +kernel
theorem dX4_isNamed_25 : decode cX4_isNamed 25 = .ok (.getfield 83, 3) := by decide +kernel
theorem dX4_isNamed_28 : decode cX4_isNamed 28 = .ok (.isub, 1) := by decide +kernel
theorem dX4_isNamed_29 : decode cX4_isNamed 29 = .ok (.iload_n 2, 1) := by decide +kernel
theorem dX4_isNamed_30 : decode cX4_isNamed 30 = .ok (.if_icmp .eq 5, 3) := by decide +kernel
theorem dX4_isNamed_33 : decode cX4_isNamed 33 = .ok (.iconst 0, 1) := by decide +kernel
theorem dX4_isNamed_34 : decode cX4_isNamed 34 = .ok (.ireturn, 1) := by decide +kernel
theorem dX4_isNamed_35 : decode cX4_isNamed 35 = .ok (.iconst 0, 1) := by decide +kernel
theorem dX4_isNamed_36 : decode cX4_isNamed 36 = .ok (.istore_n 3, 1) := by decide +kernel
theorem dX4_isNamed_37 : decode cX4_isNamed 37 = .ok (.iload_n 3, 1) := by decide +kernel
theorem dX4_isNamed_38 : decode cX4_isNamed 38 = .ok (.iload_n 2, 1) := by decide +kernel
theorem dX4_isNamed_39 : decode cX4_isNamed 39 = .ok (.if_icmp .ge 45, 3) := by decide +kernel
theorem dX4_isNamed_42 : decode cX4_isNamed 42 = .ok (.aload_n 0, 1) := by decide +kernel
theorem dX4_isNamed_43 : decode cX4_isNamed 43 = .ok (.getfield 21, 3) := by decide +kernel
theorem dX4_isNamed_46 : decode cX4_isNamed 46 = .ok (.aload_n 0, 1) := by decide +kernel
theorem dX4_isNamed_47 : decode cX4_isNamed 47 = .ok (.getfield 9, 3) := by decide +kernel
theorem dX4_isNamed_50 : decode cX4_isNamed 50 = .ok (.iload_n 1, 1) := by decide +kernel
theorem dX4_isNamed_51 : decode cX4_isNamed 51 = .ok (.iaload, 1) := by decide +kernel
theorem dX4_isNamed_52 : decode cX4_isNamed 52 = .ok (.iload_n 3, 1) := by decide +kernel
theorem dX4_isNamed_53 : decode cX4_isNamed 53 = .ok (.iadd, 1) := by decide +kernel
theorem dX4_isNamed_54 : decode cX4_isNamed 54 = .ok (.invokevirtual 164, 3) := by decide +kernel
theorem dX4_isNamed_57 : decode cX4_isNamed 57 = .ok (.aload_n 0, 1) := by decide +kernel
theorem dX4_isNamed_58 : decode cX4_isNamed 58 = .ok (.getfield 21, 3) := by decide +kernel
theorem dX4_isNamed_61 : decode cX4_isNamed 61 = .ok (.aload_n 0, 1) := by decide +kernel
theorem dX4_isNamed_62 : decode cX4_isNamed 62 = .ok (.getfield 30, 3) := by decide +kernel
theorem dX4_isNamed_65 : decode cX4_isNamed 65 = .ok (.getfield 83, 3) := by decide +kernel
theorem dX4_isNamed_68 : decode cX4_isNamed 68 = .ok (.iload_n 3, 1) := by decide +kernel
theorem dX4_isNamed_69 : decode cX4_isNamed 69 = .ok (.iadd, 1) := by decide +kernel
theorem dX4_isNamed_70 : decode cX4_isNamed 70 = .ok (.invokevirtual 164, 3) := by decide +kernel
theorem dX4_isNamed_73 : decode cX4_isNamed 73 = .ok (.if_icmp .eq 5, 3) := by decide +kernel
theorem dX4_isNamed_76 : decode cX4_isNamed 76 = .ok (.iconst 0, 1) := by decide +kernel
theorem dX4_isNamed_77 : decode cX4_isNamed 77 = .ok (.ireturn, 1) := by decide +kernel
theorem dX4_isNamed_78 : decode cX4_isNamed 78 = .ok (.iinc 3 1, 3) := by decide +kernel
theorem dX4_isNamed_81 : decode cX4_isNamed 81 = .ok (.goto (-44), 3) := by decide +kernel
theorem dX4_isNamed_84 : decode cX4_isNamed 84 = .ok (.iconst 1, 1) := by decide +kernel
theorem dX4_isNamed_85 : decode cX4_isNamed 85 = .ok (.ireturn, 1) := by decide +kernel
theorem dX4_leastLag_0 : decode cX4_leastLag 0 = .ok (.bipush 60, 2) := by decide +kernel
theorem dX4_leastLag_2 : decode cX4_leastLag 2 = .ok (.istore_n 3, 1) := by decide +kernel
theorem dX4_leastLag_3 : decode cX4_leastLag 3 = .ok (.iconst 0, 1) := by decide +kernel
theorem dX4_leastLag_4 : decode cX4_leastLag 4 = .ok (.istore 4, 2) := by decide +kernel
theorem dX4_leastLag_6 : decode cX4_leastLag 6 = .ok (.iload 4, 2) := by decide +kernel
theorem dX4_leastLag_8 : decode cX4_leastLag 8 = .ok (.iload_n 1, 1) := by decide +kernel
theorem dX4_leastLag_9 : decode cX4_leastLag 9 = .ok (.if_icmp .ge 65, 3) := by decide +kernel
theorem dX4_leastLag_12 : decode cX4_leastLag 12 = .ok (.iconst 0, 1) := by decide +kernel
theorem dX4_leastLag_13 : decode cX4_leastLag 13 = .ok (.istore 5, 2) := by decide +kernel
theorem dX4_leastLag_15 : decode cX4_leastLag 15 = .ok (.iconst 0, 1) := by decide +kernel
theorem dX4_leastLag_16 : decode cX4_leastLag 16 = .ok (.istore 6, 2) := by decide +kernel
theorem dX4_leastLag_18 : decode cX4_leastLag 18 = .ok (.iload 6, 2) := by decide +kernel
theorem dX4_leastLag_20 : decode cX4_leastLag 20 = .ok (.iload_n 1, 1) := by decide +kernel
theorem dX4_leastLag_21 : decode cX4_leastLag 21 = .ok (.if_icmp .ge 29, 3) := by decide +kernel
theorem dX4_leastLag_24 : decode cX4_leastLag 24 = .ok (.aload_n 0, 1) := by decide +kernel
theorem dX4_leastLag_25 : decode cX4_leastLag 25 = .ok (.getfield 18, 3) := by decide +kernel
theorem dX4_leastLag_28 : decode cX4_leastLag 28 = .ok (.iload 6, 2) := by decide +kernel
theorem dX4_leastLag_30 : decode cX4_leastLag 30 = .ok (.iaload, 1) := by decide +kernel
theorem dX4_leastLag_31 : decode cX4_leastLag 31 = .ok (.aload_n 0, 1) := by decide +kernel
theorem dX4_leastLag_32 : decode cX4_leastLag 32 = .ok (.getfield 18, 3) := by decide +kernel
theorem dX4_leastLag_35 : decode cX4_leastLag 35 = .ok (.iload 4, 2) := by decide +kernel
theorem dX4_leastLag_37 : decode cX4_leastLag 37 = .ok (.iaload, 1) := by decide +kernel
theorem dX4_leastLag_38 : decode cX4_leastLag 38 = .ok (.if_icmp .gt 6, 3) := by decide +kernel
theorem dX4_leastLag_41 : decode cX4_leastLag 41 = .ok (.iinc 5 1, 3) := by decide +kernel
theorem dX4_leastLag_44 : decode cX4_leastLag 44 = .ok (.iinc 6 1, 3) := by decide +kernel
theorem dX4_leastLag_47 : decode cX4_leastLag 47 = .ok (.goto (-29), 3) := by decide +kernel
theorem dX4_leastLag_50 : decode cX4_leastLag 50 = .ok (.iload 5, 2) := by decide +kernel
theorem dX4_leastLag_52 : decode cX4_leastLag 52 = .ok (.iload_n 2, 1) := by decide +kernel
theorem dX4_leastLag_53 : decode cX4_leastLag 53 = .ok (.if_icmp .lt 15, 3) := by decide +kernel
theorem dX4_leastLag_56 : decode cX4_leastLag 56 = .ok (.iload_n 3, 1) := by decide +kernel
theorem dX4_leastLag_57 : decode cX4_leastLag 57 = .ok (.aload_n 0, 1) := by decide +kernel
theorem dX4_leastLag_58 : decode cX4_leastLag 58 = .ok (.getfield 18, 3) := by decide +kernel
theorem dX4_leastLag_61 : decode cX4_leastLag 61 = .ok (.iload 4, 2) := by decide +kernel
theorem dX4_leastLag_63 : decode cX4_leastLag 63 = .ok (.iaload, 1) := by decide +kernel
theorem dX4_leastLag_64 : decode cX4_leastLag 64 = .ok (.invokestatic 167, 3) := by decide +kernel
theorem dX4_leastLag_67 : decode cX4_leastLag 67 = .ok (.istore_n 3, 1) := by decide +kernel
theorem dX4_leastLag_68 : decode cX4_leastLag 68 = .ok (.iinc 4 1, 3) := by decide +kernel
theorem dX4_leastLag_71 : decode cX4_leastLag 71 = .ok (.goto (-65), 3) := by decide +kernel
theorem dX4_leastLag_74 : decode cX4_leastLag 74 = .ok (.iload_n 3, 1) := by decide +kernel
theorem dX4_leastLag_75 : decode cX4_leastLag 75 = .ok (.ireturn, 1) := by decide +kernel
theorem dX5_init_0 : decode cX5_init 0 = .ok (.aload_n 0, 1) := by decide +kernel
theorem dX5_init_1 : decode cX5_init 1 = .ok (.invokespecial 3, 3) := by decide +kernel
theorem dX5_init_4 : decode cX5_init 4 = .ok (.aload_n 0, 1) := by decide +kernel
theorem dX5_init_5 : decode cX5_init 5 = .ok (.bipush 60, 2) := by decide +kernel
theorem dX5_init_7 : decode cX5_init 7 = .ok (.newarray .int, 2) := by decide +kernel
theorem dX5_init_9 : decode cX5_init 9 = .ok (.putfield 9, 3) := by decide +kernel
theorem dX5_init_12 : decode cX5_init 12 = .ok (.aload_n 0, 1) := by decide +kernel
theorem dX5_init_13 : decode cX5_init 13 = .ok (.bipush 60, 2) := by decide +kernel
theorem dX5_init_15 : decode cX5_init 15 = .ok (.newarray .int, 2) := by decide +kernel
theorem dX5_init_17 : decode cX5_init 17 = .ok (.putfield 15, 3) := by decide +kernel
theorem dX5_init_20 : decode cX5_init 20 = .ok (.return_, 1) := by decide +kernel
theorem dX5_canAdd_0 : decode cX5_canAdd 0 = .ok (.aload_n 0, 1) := by decide +kernel
theorem dX5_canAdd_1 : decode cX5_canAdd 1 = .ok (.getfield 18, 3) := by decide +kernel
theorem dX5_canAdd_4 : decode cX5_canAdd 4 = .ok (.bipush 60, 2) := by decide +kernel
theorem dX5_canAdd_6 : decode cX5_canAdd 6 = .ok (.if_icmp .ge 29, 3) := by decide +kernel
theorem dX5_canAdd_9 : decode cX5_canAdd 9 = .ok (.aload_n 0, 1) := by decide +kernel
theorem dX5_canAdd_10 : decode cX5_canAdd 10 = .ok (.getfield 18, 3) := by decide +kernel
theorem dX5_canAdd_13 : decode cX5_canAdd 13 = .ok (.ifCond .eq 18, 3) := by decide +kernel
theorem dX5_canAdd_16 : decode cX5_canAdd 16 = .ok (.iload_n 1, 1) := by decide +kernel
theorem dX5_canAdd_17 : decode cX5_canAdd 17 = .ok (.aload_n 0, 1) := by decide +kernel
theorem dX5_canAdd_18 : decode cX5_canAdd 18 = .ok (.getfield 15, 3) := by decide +kernel
theorem dX5_canAdd_21 : decode cX5_canAdd 21 = .ok (.aload_n 0, 1) := by decide +kernel
theorem dX5_canAdd_22 : decode cX5_canAdd 22 = .ok (.getfield 18, 3) := by decide +kernel
theorem dX5_canAdd_25 : decode cX5_canAdd 25 = .ok (.iconst 1, 1) := by decide +kernel
theorem dX5_canAdd_26 : decode cX5_canAdd 26 = .ok (.isub, 1) := by decide +kernel
theorem dX5_canAdd_27 : decode cX5_canAdd 27 = .ok (.iaload, 1) := by decide +kernel
theorem dX5_canAdd_28 : decode cX5_canAdd 28 = .ok (.if_icmp .lt 7, 3) := by decide +kernel
theorem dX5_canAdd_31 : decode cX5_canAdd 31 = .ok (.iconst 1, 1) := by decide +kernel
theorem dX5_canAdd_32 : decode cX5_canAdd 32 = .ok (.goto 4, 3) := by decide +kernel
theorem dX5_canAdd_35 : decode cX5_canAdd 35 = .ok (.iconst 0, 1) := by decide +kernel
theorem dX5_canAdd_36 : decode cX5_canAdd 36 = .ok (.ireturn, 1) := by decide +kernel
theorem dX5_add_0 : decode cX5_add 0 = .ok (.aload_n 0, 1) := by decide +kernel
theorem dX5_add_1 : decode cX5_add 1 = .ok (.getfield 18, 3) := by decide +kernel
theorem dX5_add_4 : decode cX5_add 4 = .ok (.bipush 60, 2) := by decide +kernel
theorem dX5_add_6 : decode cX5_add 6 = .ok (.if_icmp .ge 33, 3) := by decide +kernel
theorem dX5_add_9 : decode cX5_add 9 = .ok (.aload_n 0, 1) := by decide +kernel
theorem dX5_add_10 : decode cX5_add 10 = .ok (.getfield 9, 3) := by decide +kernel
theorem dX5_add_13 : decode cX5_add 13 = .ok (.aload_n 0, 1) := by decide +kernel
theorem dX5_add_14 : decode cX5_add 14 = .ok (.getfield 18, 3) := by decide +kernel
theorem dX5_add_17 : decode cX5_add 17 = .ok (.iload_n 1, 1) := by decide +kernel
theorem dX5_add_18 : decode cX5_add 18 = .ok (.iastore, 1) := by decide +kernel
theorem dX5_add_19 : decode cX5_add 19 = .ok (.aload_n 0, 1) := by decide +kernel
theorem dX5_add_20 : decode cX5_add 20 = .ok (.getfield 15, 3) := by decide +kernel
theorem dX5_add_23 : decode cX5_add 23 = .ok (.aload_n 0, 1) := by decide +kernel
theorem dX5_add_24 : decode cX5_add 24 = .ok (.getfield 18, 3) := by decide +kernel
theorem dX5_add_27 : decode cX5_add 27 = .ok (.iload_n 2, 1) := by decide +kernel
theorem dX5_add_28 : decode cX5_add 28 = .ok (.iastore, 1) := by decide +kernel
theorem dX5_add_29 : decode cX5_add 29 = .ok (.aload_n 0, 1) := by decide +kernel
theorem dX5_add_30 : decode cX5_add 30 = .ok (.dup, 1) := by decide +kernel
theorem dX5_add_31 : decode cX5_add 31 = .ok (.getfield 18, 3) := by decide +kernel
theorem dX5_add_34 : decode cX5_add 34 = .ok (.iconst 1, 1) := by decide +kernel
theorem dX5_add_35 : decode cX5_add 35 = .ok (.iadd, 1) := by decide +kernel
theorem dX5_add_36 : decode cX5_add 36 = .ok (.putfield 18, 3) := by decide +kernel
theorem dX5_add_39 : decode cX5_add 39 = .ok (.return_, 1) := by decide +kernel
theorem dX5_countApart_0 : decode cX5_countApart 0 = .ok (.iconst 0, 1) := by decide +kernel
theorem dX5_countApart_1 : decode cX5_countApart 1 = .ok (.istore_n 2, 1) := by decide +kernel
theorem dX5_countApart_2 : decode cX5_countApart 2 = .ok (.iconst 0, 1) := by decide +kernel
theorem dX5_countApart_3 : decode cX5_countApart 3 = .ok (.istore_n 3, 1) := by decide +kernel
theorem dX5_countApart_4 : decode cX5_countApart 4 = .ok (.iload_n 3, 1) := by decide +kernel
theorem dX5_countApart_5 : decode cX5_countApart 5 = .ok (.aload_n 0, 1) := by decide +kernel
theorem dX5_countApart_6 : decode cX5_countApart 6 = .ok (.getfield 18, 3) := by decide +kernel
theorem dX5_countApart_9 : decode cX5_countApart 9 = .ok (.if_icmp .ge 43, 3) := by decide +kernel
theorem dX5_countApart_12 : decode cX5_countApart 12 = .ok (.aload_n 0, 1) := by decide +kernel
theorem dX5_countApart_13 : decode cX5_countApart 13 = .ok (.iload_n 3, 1) := by decide +kernel
theorem dX5_countApart_14 : decode cX5_countApart 14 = .ok (.invokevirtual 22, 3) := by decide +kernel
theorem dX5_countApart_17 : decode cX5_countApart 17 = .ok (.istore 4, 2) := by decide +kernel
theorem dX5_countApart_19 : decode cX5_countApart 19 = .ok (.iload 4, 2) := by decide +kernel
theorem dX5_countApart_21 : decode cX5_countApart 21 = .ok (.iconst (-1), 1) := by decide +kernel
theorem dX5_countApart_22 : decode cX5_countApart 22 = .ok (.if_icmp .eq 21, 3) := by decide +kernel
theorem dX5_countApart_25 : decode cX5_countApart 25 = .ok (.aload_n 0, 1) := by decide +kernel
theorem dX5_countApart_26 : decode cX5_countApart 26 = .ok (.getfield 15, 3) := by decide +kernel
theorem dX5_countApart_29 : decode cX5_countApart 29 = .ok (.iload_n 3, 1) := by decide +kernel
theorem dX5_countApart_30 : decode cX5_countApart 30 = .ok (.iaload, 1) := by decide +kernel
theorem dX5_countApart_31 : decode cX5_countApart 31 = .ok (.aload_n 0, 1) := by decide +kernel
theorem dX5_countApart_32 : decode cX5_countApart 32 = .ok (.getfield 15, 3) := by decide +kernel
theorem dX5_countApart_35 : decode cX5_countApart 35 = .ok (.iload 4, 2) := by decide +kernel
theorem dX5_countApart_37 : decode cX5_countApart 37 = .ok (.iaload, 1) := by decide +kernel
theorem dX5_countApart_38 : decode cX5_countApart 38 = .ok (.isub, 1) := by decide +kernel
theorem dX5_countApart_39 : decode cX5_countApart 39 = .ok (.iload_n 1, 1) := by decide +kernel
theorem dX5_countApart_40 : decode cX5_countApart 40 = .ok (.if_icmp .lt 6, 3) := by decide +kernel
theorem dX5_countApart_43 : decode cX5_countApart 43 = .ok (.iinc 2 1, 3) := by decide +kernel
theorem dX5_countApart_46 : decode cX5_countApart 46 = .ok (.iinc 3 1, 3) := by decide +kernel
theorem dX5_countApart_49 : decode cX5_countApart 49 = .ok (.goto (-45), 3) := by decide +kernel
theorem dX5_countApart_52 : decode cX5_countApart 52 = .ok (.iload_n 2, 1) := by decide +kernel
theorem dX5_countApart_53 : decode cX5_countApart 53 = .ok (.ireturn, 1) := by decide +kernel
theorem dX5_rowAhead_0 : decode cX5_rowAhead 0 = .ok (.iload_n 1, 1) := by decide +kernel
theorem dX5_rowAhead_1 : decode cX5_rowAhead 1 = .ok (.iconst 1, 1) := by decide +kernel
theorem dX5_rowAhead_2 : decode cX5_rowAhead 2 = .ok (.isub, 1) := by decide +kernel
theorem dX5_rowAhead_3 : decode cX5_rowAhead 3 = .ok (.istore_n 2, 1) := by decide +kernel
theorem dX5_rowAhead_4 : decode cX5_rowAhead 4 = .ok (.iload_n 2, 1) := by decide +kernel
theorem dX5_rowAhead_5 : decode cX5_rowAhead 5 = .ok (.ifCond .lt 26, 3) := by decide +kernel
theorem dX5_rowAhead_8 : decode cX5_rowAhead 8 = .ok (.aload_n 0, 1) := by decide +kernel
theorem dX5_rowAhead_9 : decode cX5_rowAhead 9 = .ok (.getfield 9, 3) := by decide +kernel
theorem dX5_rowAhead_12 : decode cX5_rowAhead 12 = .ok (.iload_n 2, 1) := by decide +kernel
theorem dX5_rowAhead_13 : decode cX5_rowAhead 13 = .ok (.iaload, 1) := by decide +kernel
theorem dX5_rowAhead_14 : decode cX5_rowAhead 14 = .ok (.aload_n 0, 1) := by decide +kernel
theorem dX5_rowAhead_15 : decode cX5_rowAhead 15 = .ok (.getfield 9, 3) := by decide +kernel
theorem dX5_rowAhead_18 : decode cX5_rowAhead 18 = .ok (.iload_n 1, 1) := by decide +kernel
theorem dX5_rowAhead_19 : decode cX5_rowAhead 19 = .ok (.iaload, 1) := by decide +kernel
theorem dX5_rowAhead_20 : decode cX5_rowAhead 20 = .ok (.if_icmp .ne 5, 3) := by decide +kernel
theorem dX5_rowAhead_23 : decode cX5_rowAhead 23 = .ok (.iload_n 2, 1) := by decide +kernel
theorem dX5_rowAhead_24 : decode cX5_rowAhead 24 = .ok (.ireturn, 1) := by decide +kernel
theorem dX5_rowAhead_25 : decode cX5_rowAhead 25 = .ok (.iinc 2 (-1), 3) := by decide +kernel
theorem dX5_rowAhead_28 : decode cX5_rowAhead 28 = .ok (.goto (-24), 3) := by decide +kernel
theorem dX5_rowAhead_31 : decode cX5_rowAhead 31 = .ok (.iconst (-1), 1) := by decide +kernel
theorem dX5_rowAhead_32 : decode cX5_rowAhead 32 = .ok (.ireturn, 1) := by decide +kernel
theorem dX6_init_0 : decode cX6_init 0 = .ok (.aload_n 0, 1) := by decide +kernel
theorem dX6_init_1 : decode cX6_init 1 = .ok (.invokespecial 3, 3) := by decide +kernel
theorem dX6_init_4 : decode cX6_init 4 = .ok (.aload_n 0, 1) := by decide +kernel
theorem dX6_init_5 : decode cX6_init 5 = .ok (.bipush 12, 2) := by decide +kernel
theorem dX6_init_7 : decode cX6_init 7 = .ok (.newarray .int, 2) := by decide +kernel
theorem dX6_init_9 : decode cX6_init 9 = .ok (.putfield 9, 3) := by decide +kernel
theorem dX6_init_12 : decode cX6_init 12 = .ok (.aload_n 0, 1) := by decide +kernel
theorem dX6_init_13 : decode cX6_init 13 = .ok (.bipush 12, 2) := by decide +kernel
theorem dX6_init_15 : decode cX6_init 15 = .ok (.newarray .int, 2) := by decide +kernel
theorem dX6_init_17 : decode cX6_init 17 = .ok (.putfield 15, 3) := by decide +kernel
theorem dX6_init_20 : decode cX6_init 20 = .ok (.aload_n 0, 1) := by decide +kernel
theorem dX6_init_21 : decode cX6_init 21 = .ok (.sipush 300, 3) := by decide +kernel
theorem dX6_init_24 : decode cX6_init 24 = .ok (.putfield 18, 3) := by decide +kernel
theorem dX6_init_27 : decode cX6_init 27 = .ok (.aload_n 0, 1) := by decide +kernel
theorem dX6_init_28 : decode cX6_init 28 = .ok (.aload_n 1, 1) := by decide +kernel
theorem dX6_init_29 : decode cX6_init 29 = .ok (.putfield 22, 3) := by decide +kernel
theorem dX6_init_32 : decode cX6_init 32 = .ok (.aload_n 0, 1) := by decide +kernel
theorem dX6_init_33 : decode cX6_init 33 = .ok (.aload_n 2, 1) := by decide +kernel
theorem dX6_init_34 : decode cX6_init 34 = .ok (.putfield 26, 3) := by decide +kernel
theorem dX6_init_37 : decode cX6_init 37 = .ok (.return_, 1) := by decide +kernel
theorem dX6_load_0 : decode cX6_load 0 = .ok (.iconst 0, 1) := by decide +kernel
theorem dX6_load_1 : decode cX6_load 1 = .ok (.istore_n 1, 1) := by decide +kernel
theorem dX6_load_2 : decode cX6_load 2 = .ok (.iload_n 1, 1) := by decide +kernel
theorem dX6_load_3 : decode cX6_load 3 = .ok (.aload_n 0, 1) := by decide +kernel
theorem dX6_load_4 : decode cX6_load 4 = .ok (.getfield 22, 3) := by decide +kernel
theorem dX6_load_7 : decode cX6_load 7 = .ok (.getfield 30, 3) := by decide +kernel
theorem dX6_load_10 : decode cX6_load 10 = .ok (.if_icmp .ge 36, 3) := by decide +kernel
theorem dX6_load_13 : decode cX6_load 13 = .ok (.aload_n 0, 1) := by decide +kernel
theorem dX6_load_14 : decode cX6_load 14 = .ok (.getfield 26, 3) := by decide +kernel
theorem dX6_load_17 : decode cX6_load 17 = .ok (.iconst 1, 1) := by decide +kernel
theorem dX6_load_18 : decode cX6_load 18 = .ok (.iload_n 1, 1) := by decide +kernel
theorem dX6_load_19 : decode cX6_load 19 = .ok (.ishl, 1) := by decide +kernel
theorem dX6_load_20 : decode cX6_load 20 = .ok (.invokevirtual 35, 3) := by decide +kernel
theorem dX6_load_23 : decode cX6_load 23 = .ok (.aload_n 0, 1) := by decide +kernel
theorem dX6_load_24 : decode cX6_load 24 = .ok (.getfield 9, 3) := by decide +kernel
theorem dX6_load_27 : decode cX6_load 27 = .ok (.iload_n 1, 1) := by decide +kernel
theorem dX6_load_28 : decode cX6_load 28 = .ok (.aload_n 0, 1) := by decide +kernel
theorem dX6_load_29 : decode cX6_load 29 = .ok (.getfield 26, 3) := by decide +kernel
theorem dX6_load_32 : decode cX6_load 32 = .ok (.aload_n 0, 1) := by decide +kernel
theorem dX6_load_33 : decode cX6_load 33 = .ok (.getfield 18, 3) := by decide +kernel
theorem dX6_load_36 : decode cX6_load 36 = .ok (.invokevirtual 41, 3) := by decide +kernel
theorem dX6_load_39 : decode cX6_load 39 = .ok (.iastore, 1) := by decide +kernel
theorem dX6_load_40 : decode cX6_load 40 = .ok (.iinc 1 1, 3) := by decide +kernel
theorem dX6_load_43 : decode cX6_load 43 = .ok (.goto (-41), 3) := by decide +kernel
theorem dX6_load_46 : decode cX6_load 46 = .ok (.return_, 1) := by decide +kernel
theorem dX6_show_0 : decode cX6_show 0 = .ok (.iconst 0, 1) := by decide +kernel
theorem dX6_show_1 : decode cX6_show 1 = .ok (.istore_n 2, 1) := by decide +kernel
theorem dX6_show_2 : decode cX6_show 2 = .ok (.iload_n 2, 1) := by decide +kernel
theorem dX6_show_3 : decode cX6_show 3 = .ok (.aload_n 0, 1) := by decide +kernel
theorem dX6_show_4 : decode cX6_show 4 = .ok (.getfield 22, 3) := by decide +kernel
theorem dX6_show_7 : decode cX6_show 7 = .ok (.getfield 30, 3) := by decide +kernel
theorem dX6_show_10 : decode cX6_show 10 = .ok (.if_icmp .ge 29, 3) := by decide +kernel
theorem dX6_show_13 : decode cX6_show 13 = .ok (.aload_n 0, 1) := by decide +kernel
theorem dX6_show_14 : decode cX6_show 14 = .ok (.getfield 15, 3) := by decide +kernel
theorem dX6_show_17 : decode cX6_show 17 = .ok (.iload_n 2, 1) := by decide +kernel
theorem dX6_show_18 : decode cX6_show 18 = .ok (.aload_n 0, 1) := by decide +kernel
theorem dX6_show_19 : decode cX6_show 19 = .ok (.getfield 26, 3) := by decide +kernel
theorem dX6_show_22 : decode cX6_show 22 = .ok (.aload_n 0, 1) := by decide +kernel
theorem dX6_show_23 : decode cX6_show 23 = .ok (.getfield 9, 3) := by decide +kernel
theorem dX6_show_26 : decode cX6_show 26 = .ok (.iload_n 2, 1) := by decide +kernel
theorem dX6_show_27 : decode cX6_show 27 = .ok (.iaload, 1) := by decide +kernel
theorem dX6_show_28 : decode cX6_show 28 = .ok (.iload_n 1, 1) := by decide +kernel
theorem dX6_show_29 : decode cX6_show 29 = .ok (.invokevirtual 45, 3) := by decide +kernel
theorem dX6_show_32 : decode cX6_show 32 = .ok (.iastore, 1) := by decide +kernel
theorem dX6_show_33 : decode cX6_show 33 = .ok (.iinc 2 1, 3) := by decide +kernel
theorem dX6_show_36 : decode cX6_show 36 = .ok (.goto (-34), 3) := by decide +kernel
theorem dX6_show_39 : decode cX6_show 39 = .ok (.return_, 1) := by decide +kernel
theorem dX6_countLost_0 : decode cX6_countLost 0 = .ok (.iconst 0, 1) := by decide +kernel
theorem dX6_countLost_1 : decode cX6_countLost 1 = .ok (.istore_n 1, 1) := by decide +kernel
theorem dX6_countLost_2 : decode cX6_countLost 2 = .ok (.iconst 0, 1) := by decide +kernel
theorem dX6_countLost_3 : decode cX6_countLost 3 = .ok (.istore_n 2, 1) := by decide +kernel
theorem dX6_countLost_4 : decode cX6_countLost 4 = .ok (.iload_n 2, 1) := by decide +kernel
theorem dX6_countLost_5 : decode cX6_countLost 5 = .ok (.aload_n 0, 1) := by decide +kernel
theorem dX6_countLost_6 : decode cX6_countLost 6 = .ok (.getfield 22, 3) := by decide +kernel
theorem dX6_countLost_9 : decode cX6_countLost 9 = .ok (.getfield 30, 3) := by decide +kernel
theorem dX6_countLost_12 : decode cX6_countLost 12 = .ok (.if_icmp .ge 30, 3) := by decide +kernel
theorem dX6_countLost_15 : decode cX6_countLost 15 = .ok (.aload_n 0, 1) := by decide +kernel
theorem dX6_countLost_16 : decode cX6_countLost 16 = .ok (.getfield 9, 3) := by decide +kernel
theorem dX6_countLost_19 : decode cX6_countLost 19 = .ok (.iload_n 2, 1) := by decide +kernel
theorem dX6_countLost_20 : decode cX6_countLost 20 = .ok (.iaload, 1) := by decide +kernel
theorem dX6_countLost_21 : decode cX6_countLost 21 = .ok (.ifCond .eq 15, 3) := by decide +kernel
theorem dX6_countLost_24 : decode cX6_countLost 24 = .ok (.aload_n 0, 1) := by decide +kernel
theorem dX6_countLost_25 : decode cX6_countLost 25 = .ok (.getfield 15, 3) := by decide +kernel
theorem dX6_countLost_28 : decode cX6_countLost 28 = .ok (.iload_n 2, 1) := by decide +kernel
theorem dX6_countLost_29 : decode cX6_countLost 29 = .ok (.iaload, 1) := by decide +kernel
theorem dX6_countLost_30 : decode cX6_countLost 30 = .ok (.ifCond .ne 6, 3) := by decide +kernel
theorem dX6_countLost_33 : decode cX6_countLost 33 = .ok (.iinc 1 1, 3) := by decide +kernel
theorem dX6_countLost_36 : decode cX6_countLost 36 = .ok (.iinc 2 1, 3) := by decide +kernel
theorem dX6_countLost_39 : decode cX6_countLost 39 = .ok (.goto (-35), 3) := by decide +kernel
theorem dX6_countLost_42 : decode cX6_countLost 42 = .ok (.iload_n 1, 1) := by decide +kernel
theorem dX6_countLost_43 : decode cX6_countLost 43 = .ok (.ireturn, 1) := by decide +kernel
theorem dX6_countAlike_0 : decode cX6_countAlike 0 = .ok (.iconst 0, 1) := by decide +kernel
theorem dX6_countAlike_1 : decode cX6_countAlike 1 = .ok (.istore_n 1, 1) := by decide +kernel
theorem dX6_countAlike_2 : decode cX6_countAlike 2 = .ok (.iconst 0, 1) := by decide +kernel
theorem dX6_countAlike_3 : decode cX6_countAlike 3 = .ok (.istore_n 2, 1) := by decide +kernel
theorem dX6_countAlike_4 : decode cX6_countAlike 4 = .ok (.iload_n 2, 1) := by decide +kernel
theorem dX6_countAlike_5 : decode cX6_countAlike 5 = .ok (.aload_n 0, 1) := by decide +kernel
theorem dX6_countAlike_6 : decode cX6_countAlike 6 = .ok (.getfield 22, 3) := by decide +kernel
theorem dX6_countAlike_9 : decode cX6_countAlike 9 = .ok (.getfield 30, 3) := by decide +kernel
theorem dX6_countAlike_12 : decode cX6_countAlike 12 = .ok (.if_icmp .ge 55, 3) := by decide +kernel
theorem dX6_countAlike_15 : decode cX6_countAlike 15 = .ok (.iconst 0, 1) := by decide +kernel
theorem dX6_countAlike_16 : decode cX6_countAlike 16 = .ok (.istore_n 3, 1) := by decide +kernel
theorem dX6_countAlike_17 : decode cX6_countAlike 17 = .ok (.iload_n 3, 1) := by decide +kernel
theorem dX6_countAlike_18 : decode cX6_countAlike 18 = .ok (.iload_n 2, 1) := by decide +kernel
theorem dX6_countAlike_19 : decode cX6_countAlike 19 = .ok (.if_icmp .ge 42, 3) := by decide +kernel
theorem dX6_countAlike_22 : decode cX6_countAlike 22 = .ok (.aload_n 0, 1) := by decide +kernel
theorem dX6_countAlike_23 : decode cX6_countAlike 23 = .ok (.getfield 9, 3) := by decide +kernel
theorem dX6_countAlike_26 : decode cX6_countAlike 26 = .ok (.iload_n 2, 1) := by decide +kernel
theorem dX6_countAlike_27 : decode cX6_countAlike 27 = .ok (.iaload, 1) := by decide +kernel
theorem dX6_countAlike_28 : decode cX6_countAlike 28 = .ok (.aload_n 0, 1) := by decide +kernel
theorem dX6_countAlike_29 : decode cX6_countAlike 29 = .ok (.getfield 9, 3) := by decide +kernel
theorem dX6_countAlike_32 : decode cX6_countAlike 32 = .ok (.iload_n 3, 1) := by decide +kernel
theorem dX6_countAlike_33 : decode cX6_countAlike 33 = .ok (.iaload, 1) := by decide +kernel
theorem dX6_countAlike_34 : decode cX6_countAlike 34 = .ok (.if_icmp .eq 21, 3) := by decide +kernel
theorem dX6_countAlike_37 : decode cX6_countAlike 37 = .ok (.aload_n 0, 1) := by decide +kernel
theorem dX6_countAlike_38 : decode cX6_countAlike 38 = .ok (.getfield 15, 3) := by decide +kernel
theorem dX6_countAlike_41 : decode cX6_countAlike 41 = .ok (.iload_n 2, 1) := by decide +kernel
theorem dX6_countAlike_42 : decode cX6_countAlike 42 = .ok (.iaload, 1) := by decide +kernel
theorem dX6_countAlike_43 : decode cX6_countAlike 43 = .ok (.aload_n 0, 1) := by decide +kernel
theorem dX6_countAlike_44 : decode cX6_countAlike 44 = .ok (.getfield 15, 3) := by decide +kernel
theorem dX6_countAlike_47 : decode cX6_countAlike 47 = .ok (.iload_n 3, 1) := by decide +kernel
theorem dX6_countAlike_48 : decode cX6_countAlike 48 = .ok (.iaload, 1) := by decide +kernel
theorem dX6_countAlike_49 : decode cX6_countAlike 49 = .ok (.if_icmp .ne 6, 3) := by decide +kernel
theorem dX6_countAlike_52 : decode cX6_countAlike 52 = .ok (.iinc 1 1, 3) := by decide +kernel
theorem dX6_countAlike_55 : decode cX6_countAlike 55 = .ok (.iinc 3 1, 3) := by decide +kernel
theorem dX6_countAlike_58 : decode cX6_countAlike 58 = .ok (.goto (-41), 3) := by decide +kernel
theorem dX6_countAlike_61 : decode cX6_countAlike 61 = .ok (.iinc 2 1, 3) := by decide +kernel
theorem dX6_countAlike_64 : decode cX6_countAlike 64 = .ok (.goto (-60), 3) := by decide +kernel
theorem dX6_countAlike_67 : decode cX6_countAlike 67 = .ok (.iload_n 1, 1) := by decide +kernel
theorem dX6_countAlike_68 : decode cX6_countAlike 68 = .ok (.ireturn, 1) := by decide +kernel
theorem dX6_rulesToRest_0 : decode cX6_rulesToRest 0 = .ok (.iconst 0, 1) := by decide +kernel
theorem dX6_rulesToRest_1 : decode cX6_rulesToRest 1 = .ok (.istore_n 1, 1) := by decide +kernel
theorem dX6_rulesToRest_2 : decode cX6_rulesToRest 2 = .ok (.bipush 9, 2) := by decide +kernel
theorem dX6_rulesToRest_4 : decode cX6_rulesToRest 4 = .ok (.istore_n 2, 1) := by decide +kernel
theorem dX6_rulesToRest_5 : decode cX6_rulesToRest 5 = .ok (.iconst 0, 1) := by decide +kernel
theorem dX6_rulesToRest_6 : decode cX6_rulesToRest 6 = .ok (.istore_n 3, 1) := by decide +kernel
theorem dX6_rulesToRest_7 : decode cX6_rulesToRest 7 = .ok (.iload_n 3, 1) := by decide +kernel
theorem dX6_rulesToRest_8 : decode cX6_rulesToRest 8 = .ok (.iconst 1, 1) := by decide +kernel
theorem dX6_rulesToRest_9 : decode cX6_rulesToRest 9 = .ok (.aload_n 0, 1) := by decide +kernel
theorem dX6_rulesToRest_10 : decode cX6_rulesToRest 10 = .ok (.getfield 22, 3) := by decide +kernel
theorem dX6_rulesToRest_13 : decode cX6_rulesToRest 13 = .ok (.getfield 49, 3) := by decide +kernel
theorem dX6_rulesToRest_16 : decode cX6_rulesToRest 16 = .ok (.ishl, 1) := by decide +kernel
theorem dX6_rulesToRest_17 : decode cX6_rulesToRest 17 = .ok (.if_icmp .ge 44, 3) := by decide +kernel
theorem dX6_rulesToRest_20 : decode cX6_rulesToRest 20 = .ok (.iload_n 3, 1) := by decide +kernel
theorem dX6_rulesToRest_21 : decode cX6_rulesToRest 21 = .ok (.aload_n 0, 1) := by decide +kernel
theorem dX6_rulesToRest_22 : decode cX6_rulesToRest 22 = .ok (.getfield 26, 3) := by decide +kernel
theorem dX6_rulesToRest_25 : decode cX6_rulesToRest 25 = .ok (.getfield 52, 3) := by decide +kernel
theorem dX6_rulesToRest_28 : decode cX6_rulesToRest 28 = .ok (.iand, 1) := by decide +kernel
theorem dX6_rulesToRest_29 : decode cX6_rulesToRest 29 = .ok (.ifCond .ne 26, 3) := by decide +kernel
theorem dX6_rulesToRest_32 : decode cX6_rulesToRest 32 = .ok (.iload_n 3, 1) := by decide +kernel
theorem dX6_rulesToRest_33 : decode cX6_rulesToRest 33 = .ok (.invokestatic 55, 3) := by decide +kernel
theorem dX6_rulesToRest_36 : decode cX6_rulesToRest 36 = .ok (.iload_n 2, 1) := by decide +kernel
theorem dX6_rulesToRest_37 : decode cX6_rulesToRest 37 = .ok (.if_icmp .ge 18, 3) := by decide +kernel
theorem dX6_rulesToRest_40 : decode cX6_rulesToRest 40 = .ok (.aload_n 0, 1) := by decide +kernel
theorem dX6_rulesToRest_41 : decode cX6_rulesToRest 41 = .ok (.iload_n 3, 1) := by decide +kernel
theorem dX6_rulesToRest_42 : decode cX6_rulesToRest 42 = .ok (.invokevirtual 60, 3) := by decide +kernel
theorem dX6_rulesToRest_45 : decode cX6_rulesToRest 45 = .ok (.ifCond .eq 10, 3) := by decide +kernel
theorem dX6_rulesToRest_48 : decode cX6_rulesToRest 48 = .ok (.iload_n 3, 1) := by decide +kernel
theorem dX6_rulesToRest_49 : decode cX6_rulesToRest 49 = .ok (.istore_n 1, 1) := by decide +kernel
theorem dX6_rulesToRest_50 : decode cX6_rulesToRest 50 = .ok (.iload_n 3, 1) := by decide +kernel
theorem dX6_rulesToRest_51 : decode cX6_rulesToRest 51 = .ok (.invokestatic 55, 3) := by decide +kernel
theorem dX6_rulesToRest_54 : decode cX6_rulesToRest 54 = .ok (.istore_n 2, 1) := by decide +kernel
theorem dX6_rulesToRest_55 : decode cX6_rulesToRest 55 = .ok (.iinc 3 1, 3) := by decide +kernel
theorem dX6_rulesToRest_58 : decode cX6_rulesToRest 58 = .ok (.goto (-51), 3) := by decide +kernel
theorem dX6_rulesToRest_61 : decode cX6_rulesToRest 61 = .ok (.iload_n 1, 1) := by decide +kernel
theorem dX6_rulesToRest_62 : decode cX6_rulesToRest 62 = .ok (.ireturn, 1) := by decide +kernel
theorem dX6_isClear_0 : decode cX6_isClear 0 = .ok (.aload_n 0, 1) := by decide +kernel
theorem dX6_isClear_1 : decode cX6_isClear 1 = .ok (.aload_n 0, 1) := by decide +kernel
theorem dX6_isClear_2 : decode cX6_isClear 2 = .ok (.getfield 26, 3) := by decide +kernel
theorem dX6_isClear_5 : decode cX6_isClear 5 = .ok (.getfield 52, 3) := by decide +kernel
theorem dX6_isClear_8 : decode cX6_isClear 8 = .ok (.iload_n 1, 1) := by decide +kernel
theorem dX6_isClear_9 : decode cX6_isClear 9 = .ok (.ior, 1) := by decide +kernel
theorem dX6_isClear_10 : decode cX6_isClear 10 = .ok (.invokevirtual 64, 3) := by decide +kernel
theorem dX6_isClear_13 : decode cX6_isClear 13 = .ok (.aload_n 0, 1) := by decide +kernel
theorem dX6_isClear_14 : decode cX6_isClear 14 = .ok (.invokevirtual 67, 3) := by decide +kernel
theorem dX6_isClear_17 : decode cX6_isClear 17 = .ok (.ifCond .ne 14, 3) := by decide +kernel
theorem dX6_isClear_20 : decode cX6_isClear 20 = .ok (.aload_n 0, 1) := by decide +kernel
theorem dX6_isClear_21 : decode cX6_isClear 21 = .ok (.invokevirtual 71, 3) := by decide +kernel
theorem dX6_isClear_24 : decode cX6_isClear 24 = .ok (.ifCond .ne 7, 3) := by decide +kernel
theorem dX6_isClear_27 : decode cX6_isClear 27 = .ok (.iconst 1, 1) := by decide +kernel
theorem dX6_isClear_28 : decode cX6_isClear 28 = .ok (.goto 4, 3) := by decide +kernel
theorem dX6_isClear_31 : decode cX6_isClear 31 = .ok (.iconst 0, 1) := by decide +kernel
theorem dX6_isClear_32 : decode cX6_isClear 32 = .ok (.ireturn, 1) := by decide +kernel
theorem dX7_init_0 : decode cX7_init 0 = .ok (.aload_n 0, 1) := by decide +kernel
theorem dX7_init_1 : decode cX7_init 1 = .ok (.invokespecial 3, 3) := by decide +kernel
theorem dX7_init_4 : decode cX7_init 4 = .ok (.aload_n 0, 1) := by decide +kernel
theorem dX7_init_5 : decode cX7_init 5 = .ok (.bipush 12, 2) := by decide +kernel
theorem dX7_init_7 : decode cX7_init 7 = .ok (.newarray .int, 2) := by decide +kernel
theorem dX7_init_9 : decode cX7_init 9 = .ok (.putfield 9, 3) := by decide +kernel
theorem dX7_init_12 : decode cX7_init 12 = .ok (.aload_n 0, 1) := by decide +kernel
theorem dX7_init_13 : decode cX7_init 13 = .ok (.bipush 12, 2) := by decide +kernel
theorem dX7_init_15 : decode cX7_init 15 = .ok (.newarray .int, 2) := by decide +kernel
theorem dX7_init_17 : decode cX7_init 17 = .ok (.putfield 15, 3) := by decide +kernel
theorem dX7_init_20 : decode cX7_init 20 = .ok (.aload_n 0, 1) := by decide +kernel
theorem dX7_init_21 : decode cX7_init 21 = .ok (.bipush 12, 2) := by decide +kernel
theorem dX7_init_23 : decode cX7_init 23 = .ok (.newarray .int, 2) := by decide +kernel
theorem dX7_init_25 : decode cX7_init 25 = .ok (.putfield 18, 3) := by decide +kernel
theorem dX7_init_28 : decode cX7_init 28 = .ok (.aload_n 0, 1) := by decide +kernel
theorem dX7_init_29 : decode cX7_init 29 = .ok (.aload_n 1, 1) := by decide +kernel
theorem dX7_init_30 : decode cX7_init 30 = .ok (.putfield 21, 3) := by decide +kernel
theorem dX7_init_33 : decode cX7_init 33 = .ok (.return_, 1) := by decide +kernel
theorem dX7_run_0 : decode cX7_run 0 = .ok (.iconst 0, 1) := by decide +kernel
theorem dX7_run_1 : decode cX7_run 1 = .ok (.istore_n 2, 1) := by decide +kernel
theorem dX7_run_2 : decode cX7_run 2 = .ok (.iload_n 2, 1) := by decide +kernel
theorem dX7_run_3 : decode cX7_run 3 = .ok (.aload_n 0, 1) := by decide +kernel
theorem dX7_run_4 : decode cX7_run 4 = .ok (.getfield 21, 3) := by decide +kernel
theorem dX7_run_7 : decode cX7_run 7 = .ok (.getfield 25, 3) := by decide +kernel
theorem dX7_run_10 : decode cX7_run 10 = .ok (.if_icmp .ge 29, 3) := by decide +kernel
theorem dX7_run_13 : decode cX7_run 13 = .ok (.aload_n 0, 1) := by decide +kernel
theorem dX7_run_14 : decode cX7_run 14 = .ok (.getfield 9, 3) := by decide +kernel
theorem dX7_run_17 : decode cX7_run 17 = .ok (.iload_n 2, 1) := by decide +kernel
theorem dX7_run_18 : decode cX7_run 18 = .ok (.iload_n 1, 1) := by decide +kernel
theorem dX7_run_19 : decode cX7_run 19 = .ok (.iload_n 2, 1) := by decide +kernel
theorem dX7_run_20 : decode cX7_run 20 = .ok (.invokestatic 31, 3) := by decide +kernel
theorem dX7_run_23 : decode cX7_run 23 = .ok (.ifCond .eq 7, 3) := by decide +kernel
theorem dX7_run_26 : decode cX7_run 26 = .ok (.iconst 0, 1) := by decide +kernel
theorem dX7_run_27 : decode cX7_run 27 = .ok (.goto 5, 3) := by decide +kernel
theorem dX7_run_30 : decode cX7_run 30 = .ok (.ldc 35, 2) := by decide +kernel
theorem dX7_run_32 : decode cX7_run 32 = .ok (.iastore, 1) := by decide +kernel
theorem dX7_run_33 : decode cX7_run 33 = .ok (.iinc 2 1, 3) := by decide +kernel
theorem dX7_run_36 : decode cX7_run 36 = .ok (.goto (-34), 3) := by decide +kernel
theorem dX7_run_39 : decode cX7_run 39 = .ok (.iconst 1, 1) := by decide +kernel
theorem dX7_run_40 : decode cX7_run 40 = .ok (.istore_n 2, 1) := by decide +kernel
theorem dX7_run_41 : decode cX7_run 41 = .ok (.iconst 0, 1) := by decide +kernel
theorem dX7_run_42 : decode cX7_run 42 = .ok (.istore_n 3, 1) := by decide +kernel
theorem dX7_run_43 : decode cX7_run 43 = .ok (.iload_n 3, 1) := by decide +kernel
theorem dX7_run_44 : decode cX7_run 44 = .ok (.aload_n 0, 1) := by decide +kernel
theorem dX7_run_45 : decode cX7_run 45 = .ok (.getfield 21, 3) := by decide +kernel
theorem dX7_run_48 : decode cX7_run 48 = .ok (.getfield 25, 3) := by decide +kernel
theorem dX7_run_51 : decode cX7_run 51 = .ok (.if_icmp .gt 22, 3) := by decide +kernel
theorem dX7_run_54 : decode cX7_run 54 = .ok (.iload_n 2, 1) := by decide +kernel
theorem dX7_run_55 : decode cX7_run 55 = .ok (.ifCond .eq 18, 3) := by decide +kernel
theorem dX7_run_58 : decode cX7_run 58 = .ok (.aload_n 0, 1) := by decide +kernel
theorem dX7_run_59 : decode cX7_run 59 = .ok (.invokevirtual 36, 3) := by decide +kernel
theorem dX7_run_62 : decode cX7_run 62 = .ok (.aload_n 0, 1) := by decide +kernel
theorem dX7_run_63 : decode cX7_run 63 = .ok (.invokevirtual 39, 3) := by decide +kernel
theorem dX7_run_66 : decode cX7_run 66 = .ok (.istore_n 2, 1) := by decide +kernel
theorem dX7_run_67 : decode cX7_run 67 = .ok (.iinc 3 1, 3) := by decide +kernel
theorem dX7_run_70 : decode cX7_run 70 = .ok (.goto (-27), 3) := by decide +kernel
theorem dX7_run_73 : decode cX7_run 73 = .ok (.return_, 1) := by decide +kernel
theorem dX7_gather_0 : decode cX7_gather 0 = .ok (.aload_n 0, 1) := by decide +kernel
theorem dX7_gather_1 : decode cX7_gather 1 = .ok (.getfield 15, 3) := by decide +kernel
theorem dX7_gather_4 : decode cX7_gather 4 = .ok (.ldc 35, 2) := by decide +kernel
theorem dX7_gather_6 : decode cX7_gather 6 = .ok (.invokestatic 43, 3) := by decide +kernel
theorem dX7_gather_9 : decode cX7_gather 9 = .ok (.aload_n 0, 1) := by decide +kernel
theorem dX7_gather_10 : decode cX7_gather 10 = .ok (.getfield 18, 3) := by decide +kernel
theorem dX7_gather_13 : decode cX7_gather 13 = .ok (.iconst (-1), 1) := by decide +kernel
theorem dX7_gather_14 : decode cX7_gather 14 = .ok (.invokestatic 43, 3) := by decide +kernel
theorem dX7_gather_17 : decode cX7_gather 17 = .ok (.iconst 0, 1) := by decide +kernel
theorem dX7_gather_18 : decode cX7_gather 18 = .ok (.istore_n 1, 1) := by decide +kernel
theorem dX7_gather_19 : decode cX7_gather 19 = .ok (.iload_n 1, 1) := by decide +kernel
theorem dX7_gather_20 : decode cX7_gather 20 = .ok (.aload_n 0, 1) := by decide +kernel
theorem dX7_gather_21 : decode cX7_gather 21 = .ok (.getfield 21, 3) := by decide +kernel
theorem dX7_gather_24 : decode cX7_gather 24 = .ok (.getfield 49, 3) := by decide +kernel
theorem dX7_gather_27 : decode cX7_gather 27 = .ok (.if_icmp .ge 81, 3) := by decide +kernel
theorem dX7_gather_30 : decode cX7_gather 30 = .ok (.aload_n 0, 1) := by decide +kernel
theorem dX7_gather_31 : decode cX7_gather 31 = .ok (.getfield 21, 3) := by decide +kernel
theorem dX7_gather_34 : decode cX7_gather 34 = .ok (.getfield 52, 3) := by decide +kernel
theorem dX7_gather_37 : decode cX7_gather 37 = .ok (.iload_n 1, 1) := by decide +kernel
theorem dX7_gather_38 : decode cX7_gather 38 = .ok (.iaload, 1) := by decide +kernel
theorem dX7_gather_39 : decode cX7_gather 39 = .ok (.istore_n 2, 1) := by decide +kernel
theorem dX7_gather_40 : decode cX7_gather 40 = .ok (.aload_n 0, 1) := by decide +kernel
theorem dX7_gather_41 : decode cX7_gather 41 = .ok (.getfield 9, 3) := by decide +kernel
theorem dX7_gather_44 : decode cX7_gather 44 = .ok (.aload_n 0, 1) := by decide +kernel
theorem dX7_gather_45 : decode cX7_gather 45 = .ok (.getfield 21, 3) := by decide +kernel
theorem dX7_gather_48 : decode cX7_gather 48 = .ok (.getfield 55, 3) := by decide +kernel
theorem dX7_gather_51 : decode cX7_gather 51 = .ok (.iload_n 1, 1) := by decide +kernel
theorem dX7_gather_52 : decode cX7_gather 52 = .ok (.iaload, 1) := by decide +kernel
theorem dX7_gather_53 : decode cX7_gather 53 = .ok (.iaload, 1) := by decide +kernel
theorem dX7_gather_54 : decode cX7_gather 54 = .ok (.aload_n 0, 1) := by decide +kernel
theorem dX7_gather_55 : decode cX7_gather 55 = .ok (.getfield 21, 3) := by decide +kernel
theorem dX7_gather_58 : decode cX7_gather 58 = .ok (.getfield 58, 3) := by decide +kernel
theorem dX7_gather_61 : decode cX7_gather 61 = .ok (.iload_n 1, 1) := by decide +kernel
theorem dX7_gather_62 : decode cX7_gather 62 = .ok (.iaload, 1) := by decide +kernel
theorem dX7_gather_63 : decode cX7_gather 63 = .ok (.iadd, 1) := by decide +kernel
theorem dX7_gather_64 : decode cX7_gather 64 = .ok (.ldc 35, 2) := by decide +kernel
theorem dX7_gather_66 : decode cX7_gather 66 = .ok (.invokestatic 61, 3) := by decide +kernel
theorem dX7_gather_69 : decode cX7_gather 69 = .ok (.istore_n 3, 1) := by decide +kernel
theorem dX7_gather_70 : decode cX7_gather 70 = .ok (.aload_n 0, 1) := by decide +kernel
theorem dX7_gather_71 : decode cX7_gather 71 = .ok (.getfield 15, 3) := by decide +kernel
theorem dX7_gather_74 : decode cX7_gather 74 = .ok (.iload_n 2, 1) := by decide +kernel
theorem dX7_gather_75 : decode cX7_gather 75 = .ok (.aload_n 0, 1) := by decide +kernel
theorem dX7_gather_76 : decode cX7_gather 76 = .ok (.getfield 15, 3) := by decide +kernel
theorem dX7_gather_79 : decode cX7_gather 79 = .ok (.iload_n 2, 1) := by decide +kernel
theorem dX7_gather_80 : decode cX7_gather 80 = .ok (.iaload, 1) := by decide +kernel
theorem dX7_gather_81 : decode cX7_gather 81 = .ok (.iload_n 3, 1) := by decide +kernel
theorem dX7_gather_82 : decode cX7_gather 82 = .ok (.invokestatic 61, 3) := by decide +kernel
theorem dX7_gather_85 : decode cX7_gather 85 = .ok (.iastore, 1) := by decide +kernel
theorem dX7_gather_86 : decode cX7_gather 86 = .ok (.aload_n 0, 1) := by decide +kernel
theorem dX7_gather_87 : decode cX7_gather 87 = .ok (.getfield 18, 3) := by decide +kernel
theorem dX7_gather_90 : decode cX7_gather 90 = .ok (.iload_n 2, 1) := by decide +kernel
theorem dX7_gather_91 : decode cX7_gather 91 = .ok (.aload_n 0, 1) := by decide +kernel
theorem dX7_gather_92 : decode cX7_gather 92 = .ok (.getfield 18, 3) := by decide +kernel
theorem dX7_gather_95 : decode cX7_gather 95 = .ok (.iload_n 2, 1) := by decide +kernel
theorem dX7_gather_96 : decode cX7_gather 96 = .ok (.iaload, 1) := by decide +kernel
theorem dX7_gather_97 : decode cX7_gather 97 = .ok (.iload_n 3, 1) := by decide +kernel
theorem dX7_gather_98 : decode cX7_gather 98 = .ok (.invokestatic 67, 3) := by decide +kernel
theorem dX7_gather_101 : decode cX7_gather 101 = .ok (.iastore, 1) := by decide +kernel
theorem dX7_gather_102 : decode cX7_gather 102 = .ok (.iinc 1 1, 3) := by decide +kernel
theorem dX7_gather_105 : decode cX7_gather 105 = .ok (.goto (-86), 3) := by decide +kernel
theorem dX7_gather_108 : decode cX7_gather 108 = .ok (.return_, 1) := by decide +kernel
theorem dX7_settle_0 : decode cX7_settle 0 = .ok (.iconst 0, 1) := by decide +kernel
theorem dX7_settle_1 : decode cX7_settle 1 = .ok (.istore_n 1, 1) := by decide +kernel
theorem dX7_settle_2 : decode cX7_settle 2 = .ok (.iconst 0, 1) := by decide +kernel
theorem dX7_settle_3 : decode cX7_settle 3 = .ok (.istore_n 2, 1) := by decide +kernel
theorem dX7_settle_4 : decode cX7_settle 4 = .ok (.iload_n 2, 1) := by decide +kernel
theorem dX7_settle_5 : decode cX7_settle 5 = .ok (.aload_n 0, 1) := by decide +kernel
theorem dX7_settle_6 : decode cX7_settle 6 = .ok (.getfield 21, 3) := by decide +kernel
theorem dX7_settle_9 : decode cX7_settle 9 = .ok (.getfield 25, 3) := by decide +kernel
theorem dX7_settle_12 : decode cX7_settle 12 = .ok (.if_icmp .ge 79, 3) := by decide +kernel
theorem dX7_settle_15 : decode cX7_settle 15 = .ok (.aload_n 0, 1) := by decide +kernel
theorem dX7_settle_16 : decode cX7_settle 16 = .ok (.getfield 21, 3) := by decide +kernel
theorem dX7_settle_19 : decode cX7_settle 19 = .ok (.getfield 70, 3) := by decide +kernel
theorem dX7_settle_22 : decode cX7_settle 22 = .ok (.iload_n 2, 1) := by decide +kernel
theorem dX7_settle_23 : decode cX7_settle 23 = .ok (.baload, 1) := by decide +kernel
theorem dX7_settle_24 : decode cX7_settle 24 = .ok (.ifCond .eq 17, 3) := by decide +kernel
theorem dX7_settle_27 : decode cX7_settle 27 = .ok (.aload_n 0, 1) := by decide +kernel
theorem dX7_settle_28 : decode cX7_settle 28 = .ok (.getfield 18, 3) := by decide +kernel
theorem dX7_settle_31 : decode cX7_settle 31 = .ok (.iload_n 2, 1) := by decide +kernel
theorem dX7_settle_32 : decode cX7_settle 32 = .ok (.iaload, 1) := by decide +kernel
theorem dX7_settle_33 : decode cX7_settle 33 = .ok (.iconst (-1), 1) := by decide +kernel
theorem dX7_settle_34 : decode cX7_settle 34 = .ok (.if_icmp .eq 7, 3) := by decide +kernel
theorem dX7_settle_37 : decode cX7_settle 37 = .ok (.iconst 1, 1) := by decide +kernel
theorem dX7_settle_38 : decode cX7_settle 38 = .ok (.goto 4, 3) := by decide +kernel
theorem dX7_settle_41 : decode cX7_settle 41 = .ok (.iconst 0, 1) := by decide +kernel
theorem dX7_settle_42 : decode cX7_settle 42 = .ok (.istore_n 3, 1) := by decide +kernel
theorem dX7_settle_43 : decode cX7_settle 43 = .ok (.iload_n 3, 1) := by decide +kernel
theorem dX7_settle_44 : decode cX7_settle 44 = .ok (.ifCond .eq 12, 3) := by decide +kernel
theorem dX7_settle_47 : decode cX7_settle 47 = .ok (.aload_n 0, 1) := by decide +kernel
theorem dX7_settle_48 : decode cX7_settle 48 = .ok (.getfield 18, 3) := by decide +kernel
theorem dX7_settle_51 : decode cX7_settle 51 = .ok (.iload_n 2, 1) := by decide +kernel
theorem dX7_settle_52 : decode cX7_settle 52 = .ok (.iaload, 1) := by decide +kernel
theorem dX7_settle_53 : decode cX7_settle 53 = .ok (.goto 9, 3) := by decide +kernel
theorem dX7_settle_56 : decode cX7_settle 56 = .ok (.aload_n 0, 1) := by decide +kernel
theorem dX7_settle_57 : decode cX7_settle 57 = .ok (.getfield 15, 3) := by decide +kernel
theorem dX7_settle_60 : decode cX7_settle 60 = .ok (.iload_n 2, 1) := by decide +kernel
theorem dX7_settle_61 : decode cX7_settle 61 = .ok (.iaload, 1) := by decide +kernel
theorem dX7_settle_62 : decode cX7_settle 62 = .ok (.istore 4, 2) := by decide +kernel
theorem dX7_settle_64 : decode cX7_settle 64 = .ok (.iload 4, 2) := by decide +kernel
theorem dX7_settle_66 : decode cX7_settle 66 = .ok (.aload_n 0, 1) := by decide +kernel
theorem dX7_settle_67 : decode cX7_settle 67 = .ok (.getfield 9, 3) := by decide +kernel
theorem dX7_settle_70 : decode cX7_settle 70 = .ok (.iload_n 2, 1) := by decide +kernel
theorem dX7_settle_71 : decode cX7_settle 71 = .ok (.iaload, 1) := by decide +kernel
theorem dX7_settle_72 : decode cX7_settle 72 = .ok (.if_icmp .ge 13, 3) := by decide +kernel
theorem dX7_settle_75 : decode cX7_settle 75 = .ok (.aload_n 0, 1) := by decide +kernel
theorem dX7_settle_76 : decode cX7_settle 76 = .ok (.getfield 9, 3) := by decide +kernel
theorem dX7_settle_79 : decode cX7_settle 79 = .ok (.iload_n 2, 1) := by decide +kernel
theorem dX7_settle_80 : decode cX7_settle 80 = .ok (.iload 4, 2) := by decide +kernel
theorem dX7_settle_82 : decode cX7_settle 82 = .ok (.iastore, 1) := by decide +kernel
theorem dX7_settle_83 : decode cX7_settle 83 = .ok (.iconst 1, 1) := by decide +kernel
theorem dX7_settle_84 : decode cX7_settle 84 = .ok (.istore_n 1, 1) := by decide +kernel
theorem dX7_settle_85 : decode cX7_settle 85 = .ok (.iinc 2 1, 3) := by decide +kernel
theorem dX7_settle_88 : decode cX7_settle 88 = .ok (.goto (-84), 3) := by decide +kernel
theorem dX7_settle_91 : decode cX7_settle 91 = .ok (.iload_n 1, 1) := by decide +kernel
theorem dX7_settle_92 : decode cX7_settle 92 = .ok (.ireturn, 1) := by decide +kernel
theorem dX7_windowTime_0 : decode cX7_windowTime 0 = .ok (.aload_n 0, 1) := by decide +kernel
theorem dX7_windowTime_1 : decode cX7_windowTime 1 = .ok (.getfield 9, 3) := by decide +kernel
theorem dX7_windowTime_4 : decode cX7_windowTime 4 = .ok (.aload_n 0, 1) := by decide +kernel
theorem dX7_windowTime_5 : decode cX7_windowTime 5 = .ok (.getfield 21, 3) := by decide +kernel
theorem dX7_windowTime_8 : decode cX7_windowTime 8 = .ok (.getfield 74, 3) := by decide +kernel
theorem dX7_windowTime_11 : decode cX7_windowTime 11 = .ok (.iload_n 1, 1) := by decide +kernel
theorem dX7_windowTime_12 : decode cX7_windowTime 12 = .ok (.iaload, 1) := by decide +kernel
theorem dX7_windowTime_13 : decode cX7_windowTime 13 = .ok (.iaload, 1) := by decide +kernel
theorem dX7_windowTime_14 : decode cX7_windowTime 14 = .ok (.aload_n 0, 1) := by decide +kernel
theorem dX7_windowTime_15 : decode cX7_windowTime 15 = .ok (.getfield 21, 3) := by decide +kernel
theorem dX7_windowTime_18 : decode cX7_windowTime 18 = .ok (.getfield 77, 3) := by decide +kernel
theorem dX7_windowTime_21 : decode cX7_windowTime 21 = .ok (.iload_n 1, 1) := by decide +kernel
theorem dX7_windowTime_22 : decode cX7_windowTime 22 = .ok (.iaload, 1) := by decide +kernel
theorem dX7_windowTime_23 : decode cX7_windowTime 23 = .ok (.iadd, 1) := by decide +kernel
theorem dX7_windowTime_24 : decode cX7_windowTime 24 = .ok (.ldc 35, 2) := by decide +kernel
theorem dX7_windowTime_26 : decode cX7_windowTime 26 = .ok (.invokestatic 61, 3) := by decide +kernel
theorem dX7_windowTime_29 : decode cX7_windowTime 29 = .ok (.ireturn, 1) := by decide +kernel
theorem dX8_init_0 : decode cX8_init 0 = .ok (.aload_n 0, 1) := by decide +kernel
theorem dX8_init_1 : decode cX8_init 1 = .ok (.invokespecial 3, 3) := by decide +kernel
theorem dX8_init_4 : decode cX8_init 4 = .ok (.aload_n 0, 1) := by decide +kernel
theorem dX8_init_5 : decode cX8_init 5 = .ok (.sipush 600, 3) := by decide +kernel
theorem dX8_init_8 : decode cX8_init 8 = .ok (.newarray .byte, 2) := by decide +kernel
theorem dX8_init_10 : decode cX8_init 10 = .ok (.putfield 9, 3) := by decide +kernel
theorem dX8_init_13 : decode cX8_init 13 = .ok (.return_, 1) := by decide +kernel
theorem dX8_hasRoom_0 : decode cX8_hasRoom 0 = .ok (.aload_n 0, 1) := by decide +kernel
theorem dX8_hasRoom_1 : decode cX8_hasRoom 1 = .ok (.getfield 15, 3) := by decide +kernel
theorem dX8_hasRoom_4 : decode cX8_hasRoom 4 = .ok (.iload_n 1, 1) := by decide +kernel
theorem dX8_hasRoom_5 : decode cX8_hasRoom 5 = .ok (.iadd, 1) := by decide +kernel
theorem dX8_hasRoom_6 : decode cX8_hasRoom 6 = .ok (.sipush 600, 3) := by decide +kernel
theorem dX8_hasRoom_9 : decode cX8_hasRoom 9 = .ok (.if_icmp .gt 7, 3) := by decide +kernel
theorem dX8_hasRoom_12 : decode cX8_hasRoom 12 = .ok (.iconst 1, 1) := by decide +kernel
theorem dX8_hasRoom_13 : decode cX8_hasRoom 13 = .ok (.goto 4, 3) := by decide +kernel
theorem dX8_hasRoom_16 : decode cX8_hasRoom 16 = .ok (.iconst 0, 1) := by decide +kernel
theorem dX8_hasRoom_17 : decode cX8_hasRoom 17 = .ok (.ireturn, 1) := by decide +kernel
theorem dX8_addWord_0 : decode cX8_addWord 0 = .ok (.bipush 24, 2) := by decide +kernel
theorem dX8_addWord_2 : decode cX8_addWord 2 = .ok (.istore_n 2, 1) := by decide +kernel
theorem dX8_addWord_3 : decode cX8_addWord 3 = .ok (.iload_n 2, 1) := by decide +kernel
theorem dX8_addWord_4 : decode cX8_addWord 4 = .ok (.ifCond .lt 42, 3) := by decide +kernel
theorem dX8_addWord_7 : decode cX8_addWord 7 = .ok (.aload_n 0, 1) := by decide +kernel
theorem dX8_addWord_8 : decode cX8_addWord 8 = .ok (.getfield 15, 3) := by decide +kernel
theorem dX8_addWord_11 : decode cX8_addWord 11 = .ok (.sipush 600, 3) := by decide +kernel
theorem dX8_addWord_14 : decode cX8_addWord 14 = .ok (.if_icmp .ge 32, 3) := by decide +kernel
theorem dX8_addWord_17 : decode cX8_addWord 17 = .ok (.aload_n 0, 1) := by decide +kernel
theorem dX8_addWord_18 : decode cX8_addWord 18 = .ok (.getfield 9, 3) := by decide +kernel
theorem dX8_addWord_21 : decode cX8_addWord 21 = .ok (.aload_n 0, 1) := by decide +kernel
theorem dX8_addWord_22 : decode cX8_addWord 22 = .ok (.getfield 15, 3) := by decide +kernel
theorem dX8_addWord_25 : decode cX8_addWord 25 = .ok (.iload_n 1, 1) := by decide +kernel
theorem dX8_addWord_26 : decode cX8_addWord 26 = .ok (.iload_n 2, 1) := by decide +kernel
theorem dX8_addWord_27 : decode cX8_addWord 27 = .ok (.ishr, 1) := by decide +kernel
theorem dX8_addWord_28 : decode cX8_addWord 28 = .ok (.i2b, 1) := by decide +kernel
theorem dX8_addWord_29 : decode cX8_addWord 29 = .ok (.bastore, 1) := by decide +kernel
theorem dX8_addWord_30 : decode cX8_addWord 30 = .ok (.aload_n 0, 1) := by decide +kernel
theorem dX8_addWord_31 : decode cX8_addWord 31 = .ok (.dup, 1) := by decide +kernel
theorem dX8_addWord_32 : decode cX8_addWord 32 = .ok (.getfield 15, 3) := by decide +kernel
theorem dX8_addWord_35 : decode cX8_addWord 35 = .ok (.iconst 1, 1) := by decide +kernel
theorem dX8_addWord_36 : decode cX8_addWord 36 = .ok (.iadd, 1) := by decide +kernel
theorem dX8_addWord_37 : decode cX8_addWord 37 = .ok (.putfield 15, 3) := by decide +kernel
theorem dX8_addWord_40 : decode cX8_addWord 40 = .ok (.iinc 2 (-8), 3) := by decide +kernel
theorem dX8_addWord_43 : decode cX8_addWord 43 = .ok (.goto (-40), 3) := by decide +kernel
theorem dX8_addWord_46 : decode cX8_addWord 46 = .ok (.return_, 1) := by decide +kernel
theorem dX8_signAt_0 : decode cX8_signAt 0 = .ok (.iload_n 1, 1) := by decide +kernel
theorem dX8_signAt_1 : decode cX8_signAt 1 = .ok (.ifCond .lt 20, 3) := by decide +kernel
theorem dX8_signAt_4 : decode cX8_signAt 4 = .ok (.iload_n 1, 1) := by decide +kernel
theorem dX8_signAt_5 : decode cX8_signAt 5 = .ok (.aload_n 0, 1) := by decide +kernel
theorem dX8_signAt_6 : decode cX8_signAt 6 = .ok (.getfield 15, 3) := by decide +kernel
theorem dX8_signAt_9 : decode cX8_signAt 9 = .ok (.if_icmp .ge 12, 3) := by decide +kernel
theorem dX8_signAt_12 : decode cX8_signAt 12 = .ok (.aload_n 0, 1) := by decide +kernel
theorem dX8_signAt_13 : decode cX8_signAt 13 = .ok (.getfield 9, 3) := by decide +kernel
theorem dX8_signAt_16 : decode cX8_signAt 16 = .ok (.iload_n 1, 1) := by decide +kernel
theorem dX8_signAt_17 : decode cX8_signAt 17 = .ok (.baload, 1) := by decide +kernel
theorem dX8_signAt_18 : decode cX8_signAt 18 = .ok (.goto 4, 3) := by decide +kernel
theorem dX8_signAt_21 : decode cX8_signAt 21 = .ok (.iconst 0, 1) := by decide +kernel
theorem dX8_signAt_22 : decode cX8_signAt 22 = .ok (.ireturn, 1) := by decide +kernel
theorem dX9_init_0 : decode cX9_init 0 = .ok (.aload_n 0, 1) := by decide +kernel
theorem dX9_init_1 : decode cX9_init 1 = .ok (.invokespecial 3, 3) := by decide +kernel
theorem dX9_init_4 : decode cX9_init 4 = .ok (.aload_n 0, 1) := by decide +kernel
theorem dX9_init_5 : decode cX9_init 5 = .ok (.aload_n 1, 1) := by decide +kernel
theorem dX9_init_6 : decode cX9_init 6 = .ok (.putfield 9, 3) := by decide +kernel
theorem dX9_init_9 : decode cX9_init 9 = .ok (.return_, 1) := by decide +kernel
theorem dX9_restart_0 : decode cX9_restart 0 = .ok (.aload_n 0, 1) := by decide +kernel
theorem dX9_restart_1 : decode cX9_restart 1 = .ok (.iconst 0, 1) := by decide +kernel
theorem dX9_restart_2 : decode cX9_restart 2 = .ok (.putfield 15, 3) := by decide +kernel
theorem dX9_restart_5 : decode cX9_restart 5 = .ok (.aload_n 0, 1) := by decide +kernel
theorem dX9_restart_6 : decode cX9_restart 6 = .ok (.invokevirtual 19, 3) := by decide +kernel
theorem dX9_restart_9 : decode cX9_restart 9 = .ok (.return_, 1) := by decide +kernel
theorem dX9_advance_0 : decode cX9_advance 0 = .ok (.aload_n 0, 1) := by decide +kernel
theorem dX9_advance_1 : decode cX9_advance 1 = .ok (.aload_n 0, 1) := by decide +kernel
theorem dX9_advance_2 : decode cX9_advance 2 = .ok (.getfield 15, 3) := by decide +kernel
theorem dX9_advance_5 : decode cX9_advance 5 = .ok (.putfield 22, 3) := by decide +kernel
theorem dX9_advance_8 : decode cX9_advance 8 = .ok (.aload_n 0, 1) := by decide +kernel
theorem dX9_advance_9 : decode cX9_advance 9 = .ok (.getfield 22, 3) := by decide +kernel
theorem dX9_advance_12 : decode cX9_advance 12 = .ok (.aload_n 0, 1) := by decide +kernel
theorem dX9_advance_13 : decode cX9_advance 13 = .ok (.getfield 9, 3) := by decide +kernel
theorem dX9_advance_16 : decode cX9_advance 16 = .ok (.getfield 25, 3) := by decide +kernel
theorem dX9_advance_19 : decode cX9_advance 19 = .ok (.if_icmp .ge 33, 3) := by decide +kernel
theorem dX9_advance_22 : decode cX9_advance 22 = .ok (.aload_n 0, 1) := by decide +kernel
theorem dX9_advance_23 : decode cX9_advance 23 = .ok (.getfield 9, 3) := by decide +kernel
theorem dX9_advance_26 : decode cX9_advance 26 = .ok (.aload_n 0, 1) := by decide +kernel
theorem dX9_advance_27 : decode cX9_advance 27 = .ok (.getfield 22, 3) := by decide +kernel
theorem dX9_advance_30 : decode cX9_advance 30 = .ok (.invokevirtual 30, 3) := by decide +kernel
theorem dX9_advance_33 : decode cX9_advance 33 = .ok (.invokestatic 34, 3) := by decide +kernel
theorem dX9_advance_36 : decode cX9_advance 36 = .ok (.ifCond .eq 16, 3) := by decide +kernel
theorem dX9_advance_39 : decode cX9_advance 39 = .ok (.aload_n 0, 1) := by decide +kernel
theorem dX9_advance_40 : decode cX9_advance 40 = .ok (.dup, 1) := by decide +kernel
theorem dX9_advance_41 : decode cX9_advance 41 = .ok (.getfield 22, 3) := by decide +kernel
theorem dX9_advance_44 : decode cX9_advance 44 = .ok (.iconst 1, 1) := by decide +kernel
theorem dX9_advance_45 : decode cX9_advance 45 = .ok (.iadd, 1) := by decide +kernel
theorem dX9_advance_46 : decode cX9_advance 46 = .ok (.putfield 22, 3) := by decide +kernel
theorem dX9_advance_49 : decode cX9_advance 49 = .ok (.goto (-41), 3) := by decide +kernel
theorem dX9_advance_52 : decode cX9_advance 52 = .ok (.aload_n 0, 1) := by decide +kernel
theorem dX9_advance_53 : decode cX9_advance 53 = .ok (.aload_n 0, 1) := by decide +kernel
theorem dX9_advance_54 : decode cX9_advance 54 = .ok (.getfield 22, 3) := by decide +kernel
theorem dX9_advance_57 : decode cX9_advance 57 = .ok (.putfield 15, 3) := by decide +kernel
theorem dX9_advance_60 : decode cX9_advance 60 = .ok (.aload_n 0, 1) := by decide +kernel
theorem dX9_advance_61 : decode cX9_advance 61 = .ok (.getfield 22, 3) := by decide +kernel
theorem dX9_advance_64 : decode cX9_advance 64 = .ok (.aload_n 0, 1) := by decide +kernel
theorem dX9_advance_65 : decode cX9_advance 65 = .ok (.getfield 9, 3) := by decide +kernel
theorem dX9_advance_68 : decode cX9_advance 68 = .ok (.getfield 25, 3) := by decide +kernel
theorem dX9_advance_71 : decode cX9_advance 71 = .ok (.if_icmp .lt 9, 3) := by decide +kernel
theorem dX9_advance_74 : decode cX9_advance 74 = .ok (.aload_n 0, 1) := by decide +kernel
theorem dX9_advance_75 : decode cX9_advance 75 = .ok (.iconst 4, 1) := by decide +kernel
theorem dX9_advance_76 : decode cX9_advance 76 = .ok (.putfield 38, 3) := by decide +kernel
theorem dX9_advance_79 : decode cX9_advance 79 = .ok (.return_, 1) := by decide +kernel
theorem dX9_advance_80 : decode cX9_advance 80 = .ok (.aload_n 0, 1) := by decide +kernel
theorem dX9_advance_81 : decode cX9_advance 81 = .ok (.getfield 9, 3) := by decide +kernel
theorem dX9_advance_84 : decode cX9_advance 84 = .ok (.aload_n 0, 1) := by decide +kernel
theorem dX9_advance_85 : decode cX9_advance 85 = .ok (.getfield 22, 3) := by decide +kernel
theorem dX9_advance_88 : decode cX9_advance 88 = .ok (.invokevirtual 30, 3) := by decide +kernel
theorem dX9_advance_91 : decode cX9_advance 91 = .ok (.istore_n 1, 1) := by decide +kernel
theorem dX9_advance_92 : decode cX9_advance 92 = .ok (.iload_n 1, 1) := by decide +kernel
theorem dX9_advance_93 : decode cX9_advance 93 = .ok (.invokestatic 41, 3) := by decide +kernel
theorem dX9_advance_96 : decode cX9_advance 96 = .ok (.ifCond .eq 10, 3) := by decide +kernel
theorem dX9_advance_99 : decode cX9_advance 99 = .ok (.aload_n 0, 1) := by decide +kernel
theorem dX9_advance_100 : decode cX9_advance 100 = .ok (.invokevirtual 44, 3) := by decide +kernel
theorem dX9_advance_103 : decode cX9_advance 103 = .ok (.goto 42, 3) := by decide +kernel
theorem dX9_advance_106 : decode cX9_advance 106 = .ok (.iload_n 1, 1) := by decide +kernel
theorem dX9_advance_107 : decode cX9_advance 107 = .ok (.invokestatic 47, 3) := by decide +kernel
theorem dX9_advance_110 : decode cX9_advance 110 = .ok (.ifCond .eq 10, 3) := by decide +kernel
theorem dX9_advance_113 : decode cX9_advance 113 = .ok (.aload_n 0, 1) := by decide +kernel
theorem dX9_advance_114 : decode cX9_advance 114 = .ok (.invokevirtual 50, 3) := by decide +kernel
theorem dX9_advance_117 : decode cX9_advance 117 = .ok (.goto 28, 3) := by decide +kernel
theorem dX9_advance_120 : decode cX9_advance 120 = .ok (.aload_n 0, 1) := by decide +kernel
theorem dX9_advance_121 : decode cX9_advance 121 = .ok (.iload_n 1, 1) := by decide +kernel
theorem dX9_advance_122 : decode cX9_advance 122 = .ok (.bipush 59, 2) := by decide +kernel
theorem dX9_advance_124 : decode cX9_advance 124 = .ok (.if_icmp .ne 7, 3) := by decide +kernel
theorem dX9_advance_127 : decode cX9_advance 127 = .ok (.iconst 2, 1) := by decide +kernel
theorem dX9_advance_128 : decode cX9_advance 128 = .ok (.goto 4, 3) := by decide +kernel
theorem dX9_advance_131 : decode cX9_advance 131 = .ok (.iconst 3, 1) := by decide +kernel
theorem dX9_advance_132 : decode cX9_advance 132 = .ok (.putfield 38, 3) := by decide +kernel
theorem dX9_advance_135 : decode cX9_advance 135 = .ok (.aload_n 0, 1) := by decide +kernel
theorem dX9_advance_136 : decode cX9_advance 136 = .ok (.aload_n 0, 1) := by decide +kernel
theorem dX9_advance_137 : decode cX9_advance 137 = .ok (.getfield 22, 3) := by decide +kernel
theorem dX9_advance_140 : decode cX9_advance 140 = .ok (.iconst 1, 1) := by decide +kernel
theorem dX9_advance_141 : decode cX9_advance 141 = .ok (.iadd, 1) := by decide +kernel
theorem dX9_advance_142 : decode cX9_advance 142 = .ok (.putfield 15, 3) := by decide +kernel
theorem dX9_advance_145 : decode cX9_advance 145 = .ok (.return_, 1) := by decide +kernel
theorem dX9_takeWord_0 : decode cX9_takeWord 0 = .ok (.aload_n 0, 1) := by decide +kernel
theorem dX9_takeWord_1 : decode cX9_takeWord 1 = .ok (.iconst 0, 1) := by decide +kernel
theorem dX9_takeWord_2 : decode cX9_takeWord 2 = .ok (.putfield 38, 3) := by decide +kernel
theorem dX9_takeWord_5 : decode cX9_takeWord 5 = .ok (.aload_n 0, 1) := by decide +kernel
theorem dX9_takeWord_6 : decode cX9_takeWord 6 = .ok (.getfield 15, 3) := by decide +kernel
theorem dX9_takeWord_9 : decode cX9_takeWord 9 = .ok (.aload_n 0, 1) := by decide +kernel
theorem dX9_takeWord_10 : decode cX9_takeWord 10 = .ok (.getfield 9, 3) := by decide +kernel
theorem dX9_takeWord_13 : decode cX9_takeWord 13 = .ok (.getfield 25, 3) := by decide +kernel
theorem dX9_takeWord_16 : decode cX9_takeWord 16 = .ok (.if_icmp .ge 33, 3) := by decide +kernel
theorem dX9_takeWord_19 : decode cX9_takeWord 19 = .ok (.aload_n 0, 1) := by decide +kernel
theorem dX9_takeWord_20 : decode cX9_takeWord 20 = .ok (.getfield 9, 3) := by decide +kernel
theorem dX9_takeWord_23 : decode cX9_takeWord 23 = .ok (.aload_n 0, 1) := by decide +kernel
theorem dX9_takeWord_24 : decode cX9_takeWord 24 = .ok (.getfield 15, 3) := by decide +kernel
theorem dX9_takeWord_27 : decode cX9_takeWord 27 = .ok (.invokevirtual 30, 3) := by decide +kernel
theorem dX9_takeWord_30 : decode cX9_takeWord 30 = .ok (.invokestatic 41, 3) := by decide +kernel
theorem dX9_takeWord_33 : decode cX9_takeWord 33 = .ok (.ifCond .eq 16, 3) := by decide +kernel
theorem dX9_takeWord_36 : decode cX9_takeWord 36 = .ok (.aload_n 0, 1) := by decide +kernel
theorem dX9_takeWord_37 : decode cX9_takeWord 37 = .ok (.dup, 1) := by decide +kernel
theorem dX9_takeWord_38 : decode cX9_takeWord 38 = .ok (.getfield 15, 3) := by decide +kernel
theorem dX9_takeWord_41 : decode cX9_takeWord 41 = .ok (.iconst 1, 1) := by decide +kernel
theorem dX9_takeWord_42 : decode cX9_takeWord 42 = .ok (.iadd, 1) := by decide +kernel
theorem dX9_takeWord_43 : decode cX9_takeWord 43 = .ok (.putfield 15, 3) := by decide +kernel
theorem dX9_takeWord_46 : decode cX9_takeWord 46 = .ok (.goto (-41), 3) := by decide +kernel
theorem dX9_takeWord_49 : decode cX9_takeWord 49 = .ok (.return_, 1) := by decide +kernel
theorem dX9_takeNumber_0 : decode cX9_takeNumber 0 = .ok (.aload_n 0, 1) := by decide +kernel
theorem dX9_takeNumber_1 : decode cX9_takeNumber 1 = .ok (.iconst 1, 1) := by decide +kernel
theorem dX9_takeNumber_2 : decode cX9_takeNumber 2 = .ok (.putfield 38, 3) := by decide +kernel
theorem dX9_takeNumber_5 : decode cX9_takeNumber 5 = .ok (.aload_n 0, 1) := by decide +kernel
theorem dX9_takeNumber_6 : decode cX9_takeNumber 6 = .ok (.iconst 0, 1) := by decide +kernel
theorem dX9_takeNumber_7 : decode cX9_takeNumber 7 = .ok (.putfield 53, 3) := by decide +kernel
theorem dX9_takeNumber_10 : decode cX9_takeNumber 10 = .ok (.aload_n 0, 1) := by decide +kernel
theorem dX9_takeNumber_11 : decode cX9_takeNumber 11 = .ok (.getfield 15, 3) := by decide +kernel
theorem dX9_takeNumber_14 : decode cX9_takeNumber 14 = .ok (.aload_n 0, 1) := by decide +kernel
theorem dX9_takeNumber_15 : decode cX9_takeNumber 15 = .ok (.getfield 9, 3) := by decide +kernel
theorem dX9_takeNumber_18 : decode cX9_takeNumber 18 = .ok (.getfield 25, 3) := by decide +kernel
theorem dX9_takeNumber_21 : decode cX9_takeNumber 21 = .ok (.if_icmp .ge 64, 3) := by decide +kernel
theorem dX9_takeNumber_24 : decode cX9_takeNumber 24 = .ok (.aload_n 0, 1) := by decide +kernel
theorem dX9_takeNumber_25 : decode cX9_takeNumber 25 = .ok (.getfield 9, 3) := by decide +kernel
theorem dX9_takeNumber_28 : decode cX9_takeNumber 28 = .ok (.aload_n 0, 1) := by decide +kernel
theorem dX9_takeNumber_29 : decode cX9_takeNumber 29 = .ok (.getfield 15, 3) := by decide +kernel
theorem dX9_takeNumber_32 : decode cX9_takeNumber 32 = .ok (.invokevirtual 30, 3) := by decide +kernel
theorem dX9_takeNumber_35 : decode cX9_takeNumber 35 = .ok (.invokestatic 47, 3) := by decide +kernel
theorem dX9_takeNumber_38 : decode cX9_takeNumber 38 = .ok (.ifCond .eq 47, 3) := by decide +kernel
theorem dX9_takeNumber_41 : decode cX9_takeNumber 41 = .ok (.aload_n 0, 1) := by decide +kernel
theorem dX9_takeNumber_42 : decode cX9_takeNumber 42 = .ok (.aload_n 0, 1) := by decide +kernel
theorem dX9_takeNumber_43 : decode cX9_takeNumber 43 = .ok (.getfield 53, 3) := by decide +kernel
theorem dX9_takeNumber_46 : decode cX9_takeNumber 46 = .ok (.bipush 10, 2) := by decide +kernel
theorem dX9_takeNumber_48 : decode cX9_takeNumber 48 = .ok (.imul, 1) := by decide +kernel
theorem dX9_takeNumber_49 : decode cX9_takeNumber 49 = .ok (.aload_n 0, 1) := by decide +kernel
theorem dX9_takeNumber_50 : decode cX9_takeNumber 50 = .ok (.getfield 9, 3) := by decide +kernel
theorem dX9_takeNumber_53 : decode cX9_takeNumber 53 = .ok (.aload_n 0, 1) := by decide +kernel
theorem dX9_takeNumber_54 : decode cX9_takeNumber 54 = .ok (.getfield 15, 3) := by decide +kernel
theorem dX9_takeNumber_57 : decode cX9_takeNumber 57 = .ok (.invokevirtual 30, 3) := by decide +kernel
theorem dX9_takeNumber_60 : decode cX9_takeNumber 60 = .ok (.iadd, 1) := by decide +kernel
theorem dX9_takeNumber_61 : decode cX9_takeNumber 61 = .ok (.bipush 48, 2) := by decide +kernel
theorem dX9_takeNumber_63 : decode cX9_takeNumber 63 = .ok (.isub, 1) := by decide +kernel
theorem dX9_takeNumber_64 : decode cX9_takeNumber 64 = .ok (.ldc 56, 2) := by decide +kernel
theorem dX9_takeNumber_66 : decode cX9_takeNumber 66 = .ok (.invokestatic 57, 3) := by decide +kernel
theorem dX9_takeNumber_69 : decode cX9_takeNumber 69 = .ok (.putfield 53, 3) := by decide +kernel
theorem dX9_takeNumber_72 : decode cX9_takeNumber 72 = .ok (.aload_n 0, 1) := by decide +kernel
theorem dX9_takeNumber_73 : decode cX9_takeNumber 73 = .ok (.dup, 1) := by decide +kernel
theorem dX9_takeNumber_74 : decode cX9_takeNumber 74 = .ok (.getfield 15, 3) := by decide +kernel
theorem dX9_takeNumber_77 : decode cX9_takeNumber 77 = .ok (.iconst 1, 1) := by decide +kernel
theorem dX9_takeNumber_78 : decode cX9_takeNumber 78 = .ok (.iadd, 1) := by decide +kernel
theorem dX9_takeNumber_79 : decode cX9_takeNumber 79 = .ok (.putfield 15, 3) := by decide +kernel
theorem dX9_takeNumber_82 : decode cX9_takeNumber 82 = .ok (.goto (-72), 3) := by decide +kernel
theorem dX9_takeNumber_85 : decode cX9_takeNumber 85 = .ok (.return_, 1) := by decide +kernel
theorem dX9_isWord_0 : decode cX9_isWord 0 = .ok (.aload_n 0, 1) := by decide +kernel
theorem dX9_isWord_1 : decode cX9_isWord 1 = .ok (.getfield 38, 3) := by decide +kernel
theorem dX9_isWord_4 : decode cX9_isWord 4 = .ok (.ifCond .ne 19, 3) := by decide +kernel
theorem dX9_isWord_7 : decode cX9_isWord 7 = .ok (.aload_n 0, 1) := by decide +kernel
theorem dX9_isWord_8 : decode cX9_isWord 8 = .ok (.getfield 15, 3) := by decide +kernel
theorem dX9_isWord_11 : decode cX9_isWord 11 = .ok (.aload_n 0, 1) := by decide +kernel
theorem dX9_isWord_12 : decode cX9_isWord 12 = .ok (.getfield 22, 3) := by decide +kernel
theorem dX9_isWord_15 : decode cX9_isWord 15 = .ok (.isub, 1) := by decide +kernel
theorem dX9_isWord_16 : decode cX9_isWord 16 = .ok (.aload_n 1, 1) := by decide +kernel
theorem dX9_isWord_17 : decode cX9_isWord 17 = .ok (.invokevirtual 63, 3) := by decide +kernel
theorem dX9_isWord_20 : decode cX9_isWord 20 = .ok (.if_icmp .eq 5, 3) := by decide +kernel
theorem dX9_isWord_23 : decode cX9_isWord 23 = .ok (.iconst 0, 1) := by decide +kernel
theorem dX9_isWord_24 : decode cX9_isWord 24 = .ok (.ireturn, 1) := by decide +kernel
theorem dX9_isWord_25 : decode cX9_isWord 25 = .ok (.iconst 0, 1) := by decide +kernel
theorem dX9_isWord_26 : decode cX9_isWord 26 = .ok (.istore_n 2, 1) := by decide +kernel
theorem dX9_isWord_27 : decode cX9_isWord 27 = .ok (.iload_n 2, 1) := by decide +kernel
theorem dX9_isWord_28 : decode cX9_isWord 28 = .ok (.aload_n 1, 1) := by decide +kernel
theorem dX9_isWord_29 : decode cX9_isWord 29 = .ok (.invokevirtual 63, 3) := by decide +kernel
theorem dX9_isWord_32 : decode cX9_isWord 32 = .ok (.if_icmp .ge 32, 3) := by decide +kernel
theorem dX9_isWord_35 : decode cX9_isWord 35 = .ok (.aload_n 0, 1) := by decide +kernel
theorem dX9_isWord_36 : decode cX9_isWord 36 = .ok (.getfield 9, 3) := by decide +kernel
theorem dX9_isWord_39 : decode cX9_isWord 39 = .ok (.aload_n 0, 1) := by decide +kernel
theorem dX9_isWord_40 : decode cX9_isWord 40 = .ok (.getfield 22, 3) := by decide +kernel
theorem dX9_isWord_43 : decode cX9_isWord 43 = .ok (.iload_n 2, 1) := by decide +kernel
theorem dX9_isWord_44 : decode cX9_isWord 44 = .ok (.iadd, 1) := by decide +kernel
theorem dX9_isWord_45 : decode cX9_isWord 45 = .ok (.invokevirtual 30, 3) := by decide +kernel
theorem dX9_isWord_48 : decode cX9_isWord 48 = .ok (.aload_n 1, 1) := by decide +kernel
theorem dX9_isWord_49 : decode cX9_isWord 49 = .ok (.iload_n 2, 1) := by decide +kernel
theorem dX9_isWord_50 : decode cX9_isWord 50 = .ok (.invokevirtual 68, 3) := by decide +kernel
theorem dX9_isWord_53 : decode cX9_isWord 53 = .ok (.if_icmp .eq 5, 3) := by decide +kernel
theorem dX9_isWord_56 : decode cX9_isWord 56 = .ok (.iconst 0, 1) := by decide +kernel
theorem dX9_isWord_57 : decode cX9_isWord 57 = .ok (.ireturn, 1) := by decide +kernel
theorem dX9_isWord_58 : decode cX9_isWord 58 = .ok (.iinc 2 1, 3) := by decide +kernel
theorem dX9_isWord_61 : decode cX9_isWord 61 = .ok (.goto (-34), 3) := by decide +kernel
theorem dX9_isWord_64 : decode cX9_isWord 64 = .ok (.iconst 1, 1) := by decide +kernel
theorem dX9_isWord_65 : decode cX9_isWord 65 = .ok (.ireturn, 1) := by decide +kernel
theorem dX9_isName_0 : decode cX9_isName 0 = .ok (.aload_n 0, 1) := by decide +kernel
theorem dX9_isName_1 : decode cX9_isName 1 = .ok (.getfield 38, 3) := by decide +kernel
theorem dX9_isName_4 : decode cX9_isName 4 = .ok (.ifCond .ne 28, 3) := by decide +kernel
theorem dX9_isName_7 : decode cX9_isName 7 = .ok (.aload_n 0, 1) := by decide +kernel
theorem dX9_isName_8 : decode cX9_isName 8 = .ok (.getfield 15, 3) := by decide +kernel
theorem dX9_isName_11 : decode cX9_isName 11 = .ok (.aload_n 0, 1) := by decide +kernel
theorem dX9_isName_12 : decode cX9_isName 12 = .ok (.getfield 22, 3) := by decide +kernel
theorem dX9_isName_15 : decode cX9_isName 15 = .ok (.isub, 1) := by decide +kernel
theorem dX9_isName_16 : decode cX9_isName 16 = .ok (.bipush 8, 2) := by decide +kernel
theorem dX9_isName_18 : decode cX9_isName 18 = .ok (.if_icmp .gt 14, 3) := by decide +kernel
theorem dX9_isName_21 : decode cX9_isName 21 = .ok (.aload_n 0, 1) := by decide +kernel
theorem dX9_isName_22 : decode cX9_isName 22 = .ok (.invokevirtual 72, 3) := by decide +kernel
theorem dX9_isName_25 : decode cX9_isName 25 = .ok (.ifCond .ne 7, 3) := by decide +kernel
theorem dX9_isName_28 : decode cX9_isName 28 = .ok (.iconst 1, 1) := by decide +kernel
theorem dX9_isName_29 : decode cX9_isName 29 = .ok (.goto 4, 3) := by decide +kernel
theorem dX9_isName_32 : decode cX9_isName 32 = .ok (.iconst 0, 1) := by decide +kernel
theorem dX9_isName_33 : decode cX9_isName 33 = .ok (.ireturn, 1) := by decide +kernel
theorem dX9_isKept_0 : decode cX9_isKept 0 = .ok (.aload_n 0, 1) := by decide +kernel
theorem dX9_isKept_1 : decode cX9_isKept 1 = .ok (.ldc 76, 2) := by decide +kernel
theorem dX9_isKept_3 : decode cX9_isKept 3 = .ok (.invokevirtual 78, 3) := by decide +kernel
theorem dX9_isKept_6 : decode cX9_isKept 6 = .ok (.ifCond .ne 93, 3) := by decide +kernel
theorem dX9_isKept_9 : decode cX9_isKept 9 = .ok (.aload_n 0, 1) := by decide +kernel
theorem dX9_isKept_10 : decode cX9_isKept 10 = .ok (.ldc 82, 2) := by decide +kernel
theorem dX9_isKept_12 : decode cX9_isKept 12 = .ok (.invokevirtual 78, 3) := by decide +kernel
theorem dX9_isKept_15 : decode cX9_isKept 15 = .ok (.ifCond .ne 84, 3) := by decide +kernel
theorem dX9_isKept_18 : decode cX9_isKept 18 = .ok (.aload_n 0, 1) := by decide +kernel
theorem dX9_isKept_19 : decode cX9_isKept 19 = .ok (.ldc 84, 2) := by decide +kernel
theorem dX9_isKept_21 : decode cX9_isKept 21 = .ok (.invokevirtual 78, 3) := by decide +kernel
theorem dX9_isKept_24 : decode cX9_isKept 24 = .ok (.ifCond .ne 75, 3) := by decide +kernel
theorem dX9_isKept_27 : decode cX9_isKept 27 = .ok (.aload_n 0, 1) := by decide +kernel
theorem dX9_isKept_28 : decode cX9_isKept 28 = .ok (.ldc 86, 2) := by decide +kernel
theorem dX9_isKept_30 : decode cX9_isKept 30 = .ok (.invokevirtual 78, 3) := by decide +kernel
theorem dX9_isKept_33 : decode cX9_isKept 33 = .ok (.ifCond .ne 66, 3) := by decide +kernel
theorem dX9_isKept_36 : decode cX9_isKept 36 = .ok (.aload_n 0, 1) := by decide +kernel
theorem dX9_isKept_37 : decode cX9_isKept 37 = .ok (.ldc 88, 2) := by decide +kernel
theorem dX9_isKept_39 : decode cX9_isKept 39 = .ok (.invokevirtual 78, 3) := by decide +kernel
theorem dX9_isKept_42 : decode cX9_isKept 42 = .ok (.ifCond .ne 57, 3) := by decide +kernel
theorem dX9_isKept_45 : decode cX9_isKept 45 = .ok (.aload_n 0, 1) := by decide +kernel
theorem dX9_isKept_46 : decode cX9_isKept 46 = .ok (.ldc 90, 2) := by decide +kernel
theorem dX9_isKept_48 : decode cX9_isKept 48 = .ok (.invokevirtual 78, 3) := by decide +kernel
theorem dX9_isKept_51 : decode cX9_isKept 51 = .ok (.ifCond .ne 48, 3) := by decide +kernel
theorem dX9_isKept_54 : decode cX9_isKept 54 = .ok (.aload_n 0, 1) := by decide +kernel
theorem dX9_isKept_55 : decode cX9_isKept 55 = .ok (.ldc 92, 2) := by decide +kernel
theorem dX9_isKept_57 : decode cX9_isKept 57 = .ok (.invokevirtual 78, 3) := by decide +kernel
theorem dX9_isKept_60 : decode cX9_isKept 60 = .ok (.ifCond .ne 39, 3) := by decide +kernel
theorem dX9_isKept_63 : decode cX9_isKept 63 = .ok (.aload_n 0, 1) := by decide +kernel
theorem dX9_isKept_64 : decode cX9_isKept 64 = .ok (.ldc 94, 2) := by decide +kernel
theorem dX9_isKept_66 : decode cX9_isKept 66 = .ok (.invokevirtual 78, 3) := by decide +kernel
theorem dX9_isKept_69 : decode cX9_isKept 69 = .ok (.ifCond .ne 30, 3) := by decide +kernel
theorem dX9_isKept_72 : decode cX9_isKept 72 = .ok (.aload_n 0, 1) := by decide +kernel
theorem dX9_isKept_73 : decode cX9_isKept 73 = .ok (.ldc 96, 2) := by decide +kernel
theorem dX9_isKept_75 : decode cX9_isKept 75 = .ok (.invokevirtual 78, 3) := by decide +kernel
theorem dX9_isKept_78 : decode cX9_isKept 78 = .ok (.ifCond .ne 21, 3) := by decide +kernel
theorem dX9_isKept_81 : decode cX9_isKept 81 = .ok (.aload_n 0, 1) := by decide +kernel
theorem dX9_isKept_82 : decode cX9_isKept 82 = .ok (.ldc 98, 2) := by decide +kernel
theorem dX9_isKept_84 : decode cX9_isKept 84 = .ok (.invokevirtual 78, 3) := by decide +kernel
theorem dX9_isKept_87 : decode cX9_isKept 87 = .ok (.ifCond .ne 12, 3) := by decide +kernel
theorem dX9_isKept_90 : decode cX9_isKept 90 = .ok (.aload_n 0, 1) := by decide +kernel
theorem dX9_isKept_91 : decode cX9_isKept 91 = .ok (.ldc 100, 2) := by decide +kernel
theorem dX9_isKept_93 : decode cX9_isKept 93 = .ok (.invokevirtual 78, 3) := by decide +kernel
theorem dX9_isKept_96 : decode cX9_isKept 96 = .ok (.ifCond .eq 7, 3) := by decide +kernel
theorem dX9_isKept_99 : decode cX9_isKept 99 = .ok (.iconst 1, 1) := by decide +kernel
theorem dX9_isKept_100 : decode cX9_isKept 100 = .ok (.goto 4, 3) := by decide +kernel
theorem dX9_isKept_103 : decode cX9_isKept 103 = .ok (.iconst 0, 1) := by decide +kernel
theorem dX9_isKept_104 : decode cX9_isKept 104 = .ok (.ireturn, 1) := by decide +kernel
theorem dX9_isBlank_0 : decode cX9_isBlank 0 = .ok (.iload_n 0, 1) := by decide +kernel
theorem dX9_isBlank_1 : decode cX9_isBlank 1 = .ok (.bipush 32, 2) := by decide +kernel
theorem dX9_isBlank_3 : decode cX9_isBlank 3 = .ok (.if_icmp .eq 9, 3) := by decide +kernel
theorem dX9_isBlank_6 : decode cX9_isBlank 6 = .ok (.iload_n 0, 1) := by decide +kernel
theorem dX9_isBlank_7 : decode cX9_isBlank 7 = .ok (.bipush 10, 2) := by decide +kernel
theorem dX9_isBlank_9 : decode cX9_isBlank 9 = .ok (.if_icmp .ne 7, 3) := by decide +kernel
theorem dX9_isBlank_12 : decode cX9_isBlank 12 = .ok (.iconst 1, 1) := by decide +kernel
theorem dX9_isBlank_13 : decode cX9_isBlank 13 = .ok (.goto 4, 3) := by decide +kernel
theorem dX9_isBlank_16 : decode cX9_isBlank 16 = .ok (.iconst 0, 1) := by decide +kernel
theorem dX9_isBlank_17 : decode cX9_isBlank 17 = .ok (.ireturn, 1) := by decide +kernel
theorem dX9_isLetter_0 : decode cX9_isLetter 0 = .ok (.iload_n 0, 1) := by decide +kernel
theorem dX9_isLetter_1 : decode cX9_isLetter 1 = .ok (.bipush 97, 2) := by decide +kernel
theorem dX9_isLetter_3 : decode cX9_isLetter 3 = .ok (.if_icmp .lt 13, 3) := by decide +kernel
theorem dX9_isLetter_6 : decode cX9_isLetter 6 = .ok (.iload_n 0, 1) := by decide +kernel
theorem dX9_isLetter_7 : decode cX9_isLetter 7 = .ok (.bipush 122, 2) := by decide +kernel
theorem dX9_isLetter_9 : decode cX9_isLetter 9 = .ok (.if_icmp .gt 7, 3) := by decide +kernel
theorem dX9_isLetter_12 : decode cX9_isLetter 12 = .ok (.iconst 1, 1) := by decide +kernel
theorem dX9_isLetter_13 : decode cX9_isLetter 13 = .ok (.goto 4, 3) := by decide +kernel
theorem dX9_isLetter_16 : decode cX9_isLetter 16 = .ok (.iconst 0, 1) := by decide +kernel
theorem dX9_isLetter_17 : decode cX9_isLetter 17 = .ok (.ireturn, 1) := by decide +kernel
theorem dX9_isDigit_0 : decode cX9_isDigit 0 = .ok (.iload_n 0, 1) := by decide +kernel
theorem dX9_isDigit_1 : decode cX9_isDigit 1 = .ok (.bipush 48, 2) := by decide +kernel
theorem dX9_isDigit_3 : decode cX9_isDigit 3 = .ok (.if_icmp .lt 13, 3) := by decide +kernel
theorem dX9_isDigit_6 : decode cX9_isDigit 6 = .ok (.iload_n 0, 1) := by decide +kernel
theorem dX9_isDigit_7 : decode cX9_isDigit 7 = .ok (.bipush 57, 2) := by decide +kernel
theorem dX9_isDigit_9 : decode cX9_isDigit 9 = .ok (.if_icmp .gt 7, 3) := by decide +kernel
theorem dX9_isDigit_12 : decode cX9_isDigit 12 = .ok (.iconst 1, 1) := by decide +kernel
theorem dX9_isDigit_13 : decode cX9_isDigit 13 = .ok (.goto 4, 3) := by decide +kernel
theorem dX9_isDigit_16 : decode cX9_isDigit 16 = .ok (.iconst 0, 1) := by decide +kernel
theorem dX9_isDigit_17 : decode cX9_isDigit 17 = .ok (.ireturn, 1) := by decide +kernel
theorem dX10_init_0 : decode cX10_init 0 = .ok (.aload_n 0, 1) := by decide +kernel
theorem dX10_init_1 : decode cX10_init 1 = .ok (.invokespecial 1, 3) := by decide +kernel
theorem dX10_init_4 : decode cX10_init 4 = .ok (.aload_n 0, 1) := by decide +kernel
theorem dX10_init_5 : decode cX10_init 5 = .ok (.new 7, 3) := by decide +kernel
theorem dX10_init_8 : decode cX10_init 8 = .ok (.dup, 1) := by decide +kernel
theorem dX10_init_9 : decode cX10_init 9 = .ok (.invokespecial 9, 3) := by decide +kernel
theorem dX10_init_12 : decode cX10_init 12 = .ok (.putfield 10, 3) := by decide +kernel
theorem dX10_init_15 : decode cX10_init 15 = .ok (.aload_n 0, 1) := by decide +kernel
theorem dX10_init_16 : decode cX10_init 16 = .ok (.new 16, 3) := by decide +kernel
theorem dX10_init_19 : decode cX10_init 19 = .ok (.dup, 1) := by decide +kernel
theorem dX10_init_20 : decode cX10_init 20 = .ok (.aload_n 0, 1) := by decide +kernel
theorem dX10_init_21 : decode cX10_init 21 = .ok (.getfield 10, 3) := by decide +kernel
theorem dX10_init_24 : decode cX10_init 24 = .ok (.invokespecial 18, 3) := by decide +kernel
theorem dX10_init_27 : decode cX10_init 27 = .ok (.putfield 21, 3) := by decide +kernel
theorem dX10_init_30 : decode cX10_init 30 = .ok (.aload_n 0, 1) := by decide +kernel
theorem dX10_init_31 : decode cX10_init 31 = .ok (.new 25, 3) := by decide +kernel
theorem dX10_init_34 : decode cX10_init 34 = .ok (.dup, 1) := by decide +kernel
theorem dX10_init_35 : decode cX10_init 35 = .ok (.invokespecial 27, 3) := by decide +kernel
theorem dX10_init_38 : decode cX10_init 38 = .ok (.putfield 28, 3) := by decide +kernel
theorem dX10_init_41 : decode cX10_init 41 = .ok (.aload_n 0, 1) := by decide +kernel
theorem dX10_init_42 : decode cX10_init 42 = .ok (.new 25, 3) := by decide +kernel
theorem dX10_init_45 : decode cX10_init 45 = .ok (.dup, 1) := by decide +kernel
theorem dX10_init_46 : decode cX10_init 46 = .ok (.invokespecial 27, 3) := by decide +kernel
theorem dX10_init_49 : decode cX10_init 49 = .ok (.putfield 32, 3) := by decide +kernel
theorem dX10_init_52 : decode cX10_init 52 = .ok (.aload_n 0, 1) := by decide +kernel
theorem dX10_init_53 : decode cX10_init 53 = .ok (.new 35, 3) := by decide +kernel
theorem dX10_init_56 : decode cX10_init 56 = .ok (.dup, 1) := by decide +kernel
theorem dX10_init_57 : decode cX10_init 57 = .ok (.aload_n 0, 1) := by decide +kernel
theorem dX10_init_58 : decode cX10_init 58 = .ok (.getfield 28, 3) := by decide +kernel
theorem dX10_init_61 : decode cX10_init 61 = .ok (.invokespecial 37, 3) := by decide +kernel
theorem dX10_init_64 : decode cX10_init 64 = .ok (.putfield 40, 3) := by decide +kernel
theorem dX10_init_67 : decode cX10_init 67 = .ok (.aload_n 0, 1) := by decide +kernel
theorem dX10_init_68 : decode cX10_init 68 = .ok (.new 44, 3) := by decide +kernel
theorem dX10_init_71 : decode cX10_init 71 = .ok (.dup, 1) := by decide +kernel
theorem dX10_init_72 : decode cX10_init 72 = .ok (.aload_n 0, 1) := by decide +kernel
theorem dX10_init_73 : decode cX10_init 73 = .ok (.getfield 28, 3) := by decide +kernel
theorem dX10_init_76 : decode cX10_init 76 = .ok (.aload_n 0, 1) := by decide +kernel
theorem dX10_init_77 : decode cX10_init 77 = .ok (.getfield 40, 3) := by decide +kernel
theorem dX10_init_80 : decode cX10_init 80 = .ok (.invokespecial 46, 3) := by decide +kernel
theorem dX10_init_83 : decode cX10_init 83 = .ok (.putfield 49, 3) := by decide +kernel
theorem dX10_init_86 : decode cX10_init 86 = .ok (.aload_n 0, 1) := by decide +kernel
theorem dX10_init_87 : decode cX10_init 87 = .ok (.new 53, 3) := by decide +kernel
theorem dX10_init_90 : decode cX10_init 90 = .ok (.dup, 1) := by decide +kernel
theorem dX10_init_91 : decode cX10_init 91 = .ok (.invokespecial 55, 3) := by decide +kernel
theorem dX10_init_94 : decode cX10_init 94 = .ok (.putfield 56, 3) := by decide +kernel
theorem dX10_init_97 : decode cX10_init 97 = .ok (.aload_n 0, 1) := by decide +kernel
theorem dX10_init_98 : decode cX10_init 98 = .ok (.new 60, 3) := by decide +kernel
theorem dX10_init_101 : decode cX10_init 101 = .ok (.dup, 1) := by decide +kernel
theorem dX10_init_102 : decode cX10_init 102 = .ok (.aload_n 0, 1) := by decide +kernel
theorem dX10_init_103 : decode cX10_init 103 = .ok (.getfield 28, 3) := by decide +kernel
theorem dX10_init_106 : decode cX10_init 106 = .ok (.aload_n 0, 1) := by decide +kernel
theorem dX10_init_107 : decode cX10_init 107 = .ok (.getfield 40, 3) := by decide +kernel
theorem dX10_init_110 : decode cX10_init 110 = .ok (.aload_n 0, 1) := by decide +kernel
theorem dX10_init_111 : decode cX10_init 111 = .ok (.getfield 56, 3) := by decide +kernel
theorem dX10_init_114 : decode cX10_init 114 = .ok (.invokespecial 62, 3) := by decide +kernel
theorem dX10_init_117 : decode cX10_init 117 = .ok (.putfield 65, 3) := by decide +kernel
theorem dX10_init_120 : decode cX10_init 120 = .ok (.aload_n 0, 1) := by decide +kernel
theorem dX10_init_121 : decode cX10_init 121 = .ok (.new 69, 3) := by decide +kernel
theorem dX10_init_124 : decode cX10_init 124 = .ok (.dup, 1) := by decide +kernel
theorem dX10_init_125 : decode cX10_init 125 = .ok (.aload_n 0, 1) := by decide +kernel
theorem dX10_init_126 : decode cX10_init 126 = .ok (.getfield 28, 3) := by decide +kernel
theorem dX10_init_129 : decode cX10_init 129 = .ok (.aload_n 0, 1) := by decide +kernel
theorem dX10_init_130 : decode cX10_init 130 = .ok (.getfield 49, 3) := by decide +kernel
theorem dX10_init_133 : decode cX10_init 133 = .ok (.invokespecial 71, 3) := by decide +kernel
theorem dX10_init_136 : decode cX10_init 136 = .ok (.putfield 74, 3) := by decide +kernel
theorem dX10_init_139 : decode cX10_init 139 = .ok (.aload_n 0, 1) := by decide +kernel
theorem dX10_init_140 : decode cX10_init 140 = .ok (.new 78, 3) := by decide +kernel
theorem dX10_init_143 : decode cX10_init 143 = .ok (.dup, 1) := by decide +kernel
theorem dX10_init_144 : decode cX10_init 144 = .ok (.aload_n 0, 1) := by decide +kernel
theorem dX10_init_145 : decode cX10_init 145 = .ok (.getfield 28, 3) := by decide +kernel
theorem dX10_init_148 : decode cX10_init 148 = .ok (.aload_n 0, 1) := by decide +kernel
theorem dX10_init_149 : decode cX10_init 149 = .ok (.getfield 49, 3) := by decide +kernel
theorem dX10_init_152 : decode cX10_init 152 = .ok (.aload_n 0, 1) := by decide +kernel
theorem dX10_init_153 : decode cX10_init 153 = .ok (.getfield 74, 3) := by decide +kernel
theorem dX10_init_156 : decode cX10_init 156 = .ok (.invokespecial 80, 3) := by decide +kernel
theorem dX10_init_159 : decode cX10_init 159 = .ok (.putfield 83, 3) := by decide +kernel
theorem dX10_init_162 : decode cX10_init 162 = .ok (.return_, 1) := by decide +kernel
theorem dX10_feed_0 : decode cX10_feed 0 = .ok (.aload_n 0, 1) := by decide +kernel
theorem dX10_feed_1 : decode cX10_feed 1 = .ok (.getfield 10, 3) := by decide +kernel
theorem dX10_feed_4 : decode cX10_feed 4 = .ok (.bipush 20, 2) := by decide +kernel
theorem dX10_feed_6 : decode cX10_feed 6 = .ok (.invokevirtual 87, 3) := by decide +kernel
theorem dX10_feed_9 : decode cX10_feed 9 = .ok (.ifCond .ne 5, 3) := by decide +kernel
theorem dX10_feed_12 : decode cX10_feed 12 = .ok (.iconst (-1), 1) := by decide +kernel
theorem dX10_feed_13 : decode cX10_feed 13 = .ok (.ireturn, 1) := by decide +kernel
theorem dX10_feed_14 : decode cX10_feed 14 = .ok (.aload_n 0, 1) := by decide +kernel
theorem dX10_feed_15 : decode cX10_feed 15 = .ok (.getfield 10, 3) := by decide +kernel
theorem dX10_feed_18 : decode cX10_feed 18 = .ok (.iload_n 1, 1) := by decide +kernel
theorem dX10_feed_19 : decode cX10_feed 19 = .ok (.invokevirtual 91, 3) := by decide +kernel
theorem dX10_feed_22 : decode cX10_feed 22 = .ok (.aload_n 0, 1) := by decide +kernel
theorem dX10_feed_23 : decode cX10_feed 23 = .ok (.getfield 10, 3) := by decide +kernel
theorem dX10_feed_26 : decode cX10_feed 26 = .ok (.iload_n 2, 1) := by decide +kernel
theorem dX10_feed_27 : decode cX10_feed 27 = .ok (.invokevirtual 91, 3) := by decide +kernel
theorem dX10_feed_30 : decode cX10_feed 30 = .ok (.aload_n 0, 1) := by decide +kernel
theorem dX10_feed_31 : decode cX10_feed 31 = .ok (.getfield 10, 3) := by decide +kernel
theorem dX10_feed_34 : decode cX10_feed 34 = .ok (.iload_n 3, 1) := by decide +kernel
theorem dX10_feed_35 : decode cX10_feed 35 = .ok (.invokevirtual 91, 3) := by decide +kernel
theorem dX10_feed_38 : decode cX10_feed 38 = .ok (.aload_n 0, 1) := by decide +kernel
theorem dX10_feed_39 : decode cX10_feed 39 = .ok (.getfield 10, 3) := by decide +kernel
theorem dX10_feed_42 : decode cX10_feed 42 = .ok (.iload 4, 2) := by decide +kernel
theorem dX10_feed_44 : decode cX10_feed 44 = .ok (.invokevirtual 91, 3) := by decide +kernel
theorem dX10_feed_47 : decode cX10_feed 47 = .ok (.aload_n 0, 1) := by decide +kernel
theorem dX10_feed_48 : decode cX10_feed 48 = .ok (.getfield 10, 3) := by decide +kernel
theorem dX10_feed_51 : decode cX10_feed 51 = .ok (.iload 5, 2) := by decide +kernel
theorem dX10_feed_53 : decode cX10_feed 53 = .ok (.invokevirtual 91, 3) := by decide +kernel
theorem dX10_feed_56 : decode cX10_feed 56 = .ok (.aload_n 0, 1) := by decide +kernel
theorem dX10_feed_57 : decode cX10_feed 57 = .ok (.getfield 10, 3) := by decide +kernel
theorem dX10_feed_60 : decode cX10_feed 60 = .ok (.getfield 95, 3) := by decide +kernel
theorem dX10_feed_63 : decode cX10_feed 63 = .ok (.ireturn, 1) := by decide +kernel
theorem dX10_end_0 : decode cX10_end 0 = .ok (.iload_n 1, 1) := by decide +kernel
theorem dX10_end_1 : decode cX10_end 1 = .ok (.ifCond .lt 14, 3) := by decide +kernel
theorem dX10_end_4 : decode cX10_end 4 = .ok (.iload_n 1, 1) := by decide +kernel
theorem dX10_end_5 : decode cX10_end 5 = .ok (.aload_n 0, 1) := by decide +kernel
theorem dX10_end_6 : decode cX10_end 6 = .ok (.getfield 10, 3) := by decide +kernel
theorem dX10_end_9 : decode cX10_end 9 = .ok (.getfield 95, 3) := by decide +kernel
theorem dX10_end_12 : decode cX10_end 12 = .ok (.if_icmp .le 5, 3) := by decide +kernel
theorem dX10_end_15 : decode cX10_end 15 = .ok (.iconst 0, 1) := by decide +kernel
theorem dX10_end_16 : decode cX10_end 16 = .ok (.ireturn, 1) := by decide +kernel
theorem dX10_end_17 : decode cX10_end 17 = .ok (.aload_n 0, 1) := by decide +kernel
theorem dX10_end_18 : decode cX10_end 18 = .ok (.getfield 10, 3) := by decide +kernel
theorem dX10_end_21 : decode cX10_end 21 = .ok (.iload_n 1, 1) := by decide +kernel
theorem dX10_end_22 : decode cX10_end 22 = .ok (.putfield 95, 3) := by decide +kernel
theorem dX10_end_25 : decode cX10_end 25 = .ok (.iconst 1, 1) := by decide +kernel
theorem dX10_end_26 : decode cX10_end 26 = .ok (.ireturn, 1) := by decide +kernel
theorem dX10_fault_0 : decode cX10_fault 0 = .ok (.aload_n 0, 1) := by decide +kernel
theorem dX10_fault_1 : decode cX10_fault 1 = .ok (.getfield 21, 3) := by decide +kernel
theorem dX10_fault_4 : decode cX10_fault 4 = .ok (.aload_n 0, 1) := by decide +kernel
theorem dX10_fault_5 : decode cX10_fault 5 = .ok (.getfield 32, 3) := by decide +kernel
theorem dX10_fault_8 : decode cX10_fault 8 = .ok (.invokevirtual 99, 3) := by decide +kernel
theorem dX10_fault_11 : decode cX10_fault 11 = .ok (.ireturn, 1) := by decide +kernel
theorem dX10_plant_0 : decode cX10_plant 0 = .ok (.aload_n 0, 1) := by decide +kernel
theorem dX10_plant_1 : decode cX10_plant 1 = .ok (.getfield 21, 3) := by decide +kernel
theorem dX10_plant_4 : decode cX10_plant 4 = .ok (.aload_n 0, 1) := by decide +kernel
theorem dX10_plant_5 : decode cX10_plant 5 = .ok (.getfield 32, 3) := by decide +kernel
theorem dX10_plant_8 : decode cX10_plant 8 = .ok (.invokevirtual 99, 3) := by decide +kernel
theorem dX10_plant_11 : decode cX10_plant 11 = .ok (.iconst (-1), 1) := by decide +kernel
theorem dX10_plant_12 : decode cX10_plant 12 = .ok (.if_icmp .eq 5, 3) := by decide +kernel
theorem dX10_plant_15 : decode cX10_plant 15 = .ok (.iconst (-1), 1) := by decide +kernel
theorem dX10_plant_16 : decode cX10_plant 16 = .ok (.ireturn, 1) := by decide +kernel
theorem dX10_plant_17 : decode cX10_plant 17 = .ok (.aload_n 0, 1) := by decide +kernel
theorem dX10_plant_18 : decode cX10_plant 18 = .ok (.getfield 28, 3) := by decide +kernel
theorem dX10_plant_21 : decode cX10_plant 21 = .ok (.aload_n 0, 1) := by decide +kernel
theorem dX10_plant_22 : decode cX10_plant 22 = .ok (.getfield 32, 3) := by decide +kernel
theorem dX10_plant_25 : decode cX10_plant 25 = .ok (.invokevirtual 103, 3) := by decide +kernel
theorem dX10_plant_28 : decode cX10_plant 28 = .ok (.aload_n 0, 1) := by decide +kernel
theorem dX10_plant_29 : decode cX10_plant 29 = .ok (.getfield 49, 3) := by decide +kernel
theorem dX10_plant_32 : decode cX10_plant 32 = .ok (.invokevirtual 106, 3) := by decide +kernel
theorem dX10_plant_35 : decode cX10_plant 35 = .ok (.aload_n 0, 1) := by decide +kernel
theorem dX10_plant_36 : decode cX10_plant 36 = .ok (.getfield 83, 3) := by decide +kernel
theorem dX10_plant_39 : decode cX10_plant 39 = .ok (.invokevirtual 109, 3) := by decide +kernel
theorem dX10_plant_42 : decode cX10_plant 42 = .ok (.aload_n 0, 1) := by decide +kernel
theorem dX10_plant_43 : decode cX10_plant 43 = .ok (.getfield 56, 3) := by decide +kernel
theorem dX10_plant_46 : decode cX10_plant 46 = .ok (.iconst 0, 1) := by decide +kernel
theorem dX10_plant_47 : decode cX10_plant 47 = .ok (.putfield 110, 3) := by decide +kernel
theorem dX10_plant_50 : decode cX10_plant 50 = .ok (.aload_n 0, 1) := by decide +kernel
theorem dX10_plant_51 : decode cX10_plant 51 = .ok (.getfield 10, 3) := by decide +kernel
theorem dX10_plant_54 : decode cX10_plant 54 = .ok (.iconst 0, 1) := by decide +kernel
theorem dX10_plant_55 : decode cX10_plant 55 = .ok (.putfield 95, 3) := by decide +kernel
theorem dX10_plant_58 : decode cX10_plant 58 = .ok (.aload_n 0, 1) := by decide +kernel
theorem dX10_plant_59 : decode cX10_plant 59 = .ok (.getfield 28, 3) := by decide +kernel
theorem dX10_plant_62 : decode cX10_plant 62 = .ok (.getfield 113, 3) := by decide +kernel
theorem dX10_plant_65 : decode cX10_plant 65 = .ok (.ireturn, 1) := by decide +kernel
theorem dX10_stick_0 : decode cX10_stick 0 = .ok (.aload_n 0, 1) := by decide +kernel
theorem dX10_stick_1 : decode cX10_stick 1 = .ok (.iload_n 1, 1) := by decide +kernel
theorem dX10_stick_2 : decode cX10_stick 2 = .ok (.invokevirtual 116, 3) := by decide +kernel
theorem dX10_stick_5 : decode cX10_stick 5 = .ok (.ifCond .eq 12, 3) := by decide +kernel
theorem dX10_stick_8 : decode cX10_stick 8 = .ok (.iload_n 2, 1) := by decide +kernel
theorem dX10_stick_9 : decode cX10_stick 9 = .ok (.ifCond .lt 8, 3) := by decide +kernel
theorem dX10_stick_12 : decode cX10_stick 12 = .ok (.iload_n 2, 1) := by decide +kernel
theorem dX10_stick_13 : decode cX10_stick 13 = .ok (.iconst 2, 1) := by decide +kernel
theorem dX10_stick_14 : decode cX10_stick 14 = .ok (.if_icmp .le 5, 3) := by decide +kernel
theorem dX10_stick_17 : decode cX10_stick 17 = .ok (.iconst 0, 1) := by decide +kernel
theorem dX10_stick_18 : decode cX10_stick 18 = .ok (.ireturn, 1) := by decide +kernel
theorem dX10_stick_19 : decode cX10_stick 19 = .ok (.aload_n 0, 1) := by decide +kernel
theorem dX10_stick_20 : decode cX10_stick 20 = .ok (.getfield 49, 3) := by decide +kernel
theorem dX10_stick_23 : decode cX10_stick 23 = .ok (.getfield 119, 3) := by decide +kernel
theorem dX10_stick_26 : decode cX10_stick 26 = .ok (.iload_n 1, 1) := by decide +kernel
theorem dX10_stick_27 : decode cX10_stick 27 = .ok (.iload_n 2, 1) := by decide +kernel
theorem dX10_stick_28 : decode cX10_stick 28 = .ok (.iastore, 1) := by decide +kernel
theorem dX10_stick_29 : decode cX10_stick 29 = .ok (.iconst 1, 1) := by decide +kernel
theorem dX10_stick_30 : decode cX10_stick 30 = .ok (.ireturn, 1) := by decide +kernel
theorem dX10_window_0 : decode cX10_window 0 = .ok (.aload_n 0, 1) := by decide +kernel
theorem dX10_window_1 : decode cX10_window 1 = .ok (.iload_n 1, 1) := by decide +kernel
theorem dX10_window_2 : decode cX10_window 2 = .ok (.invokevirtual 116, 3) := by decide +kernel
theorem dX10_window_5 : decode cX10_window 5 = .ok (.ifCond .ne 5, 3) := by decide +kernel
theorem dX10_window_8 : decode cX10_window 8 = .ok (.iconst (-1), 1) := by decide +kernel
theorem dX10_window_9 : decode cX10_window 9 = .ok (.ireturn, 1) := by decide +kernel
theorem dX10_window_10 : decode cX10_window 10 = .ok (.iload_n 2, 1) := by decide +kernel
theorem dX10_window_11 : decode cX10_window 11 = .ok (.tableswitch 68 0 3 #[29, 39, 49, 59], 29) := by decide +kernel
theorem dX10_window_40 : decode cX10_window 40 = .ok (.aload_n 0, 1) := by decide +kernel
theorem dX10_window_41 : decode cX10_window 41 = .ok (.getfield 28, 3) := by decide +kernel
theorem dX10_window_44 : decode cX10_window 44 = .ok (.getfield 123, 3) := by decide +kernel
theorem dX10_window_47 : decode cX10_window 47 = .ok (.iload_n 1, 1) := by decide +kernel
theorem dX10_window_48 : decode cX10_window 48 = .ok (.iaload, 1) := by decide +kernel
theorem dX10_window_49 : decode cX10_window 49 = .ok (.ireturn, 1) := by decide +kernel
theorem dX10_window_50 : decode cX10_window 50 = .ok (.aload_n 0, 1) := by decide +kernel
theorem dX10_window_51 : decode cX10_window 51 = .ok (.getfield 28, 3) := by decide +kernel
theorem dX10_window_54 : decode cX10_window 54 = .ok (.getfield 126, 3) := by decide +kernel
theorem dX10_window_57 : decode cX10_window 57 = .ok (.iload_n 1, 1) := by decide +kernel
theorem dX10_window_58 : decode cX10_window 58 = .ok (.iaload, 1) := by decide +kernel
theorem dX10_window_59 : decode cX10_window 59 = .ok (.ireturn, 1) := by decide +kernel
theorem dX10_window_60 : decode cX10_window 60 = .ok (.aload_n 0, 1) := by decide +kernel
theorem dX10_window_61 : decode cX10_window 61 = .ok (.getfield 49, 3) := by decide +kernel
theorem dX10_window_64 : decode cX10_window 64 = .ok (.getfield 119, 3) := by decide +kernel
theorem dX10_window_67 : decode cX10_window 67 = .ok (.iload_n 1, 1) := by decide +kernel
theorem dX10_window_68 : decode cX10_window 68 = .ok (.iaload, 1) := by decide +kernel
theorem dX10_window_69 : decode cX10_window 69 = .ok (.ireturn, 1) := by decide +kernel
theorem dX10_window_70 : decode cX10_window 70 = .ok (.aload_n 0, 1) := by decide +kernel
theorem dX10_window_71 : decode cX10_window 71 = .ok (.getfield 83, 3) := by decide +kernel
theorem dX10_window_74 : decode cX10_window 74 = .ok (.iload_n 1, 1) := by decide +kernel
theorem dX10_window_75 : decode cX10_window 75 = .ok (.invokevirtual 129, 3) := by decide +kernel
theorem dX10_window_78 : decode cX10_window 78 = .ok (.ireturn, 1) := by decide +kernel
theorem dX10_window_79 : decode cX10_window 79 = .ok (.iconst (-1), 1) := by decide +kernel
theorem dX10_window_80 : decode cX10_window 80 = .ok (.ireturn, 1) := by decide +kernel
theorem dX10_fails_0 : decode cX10_fails 0 = .ok (.aload_n 0, 1) := by decide +kernel
theorem dX10_fails_1 : decode cX10_fails 1 = .ok (.iload_n 1, 1) := by decide +kernel
theorem dX10_fails_2 : decode cX10_fails 2 = .ok (.invokevirtual 133, 3) := by decide +kernel
theorem dX10_fails_5 : decode cX10_fails 5 = .ok (.ifCond .eq 11, 3) := by decide +kernel
theorem dX10_fails_8 : decode cX10_fails 8 = .ok (.aload_n 0, 1) := by decide +kernel
theorem dX10_fails_9 : decode cX10_fails 9 = .ok (.iload_n 2, 1) := by decide +kernel
theorem dX10_fails_10 : decode cX10_fails 10 = .ok (.invokevirtual 136, 3) := by decide +kernel
theorem dX10_fails_13 : decode cX10_fails 13 = .ok (.ifCond .ne 5, 3) := by decide +kernel
theorem dX10_fails_16 : decode cX10_fails 16 = .ok (.iconst (-1), 1) := by decide +kernel
theorem dX10_fails_17 : decode cX10_fails 17 = .ok (.ireturn, 1) := by decide +kernel
theorem dX10_fails_18 : decode cX10_fails 18 = .ok (.aload_n 0, 1) := by decide +kernel
theorem dX10_fails_19 : decode cX10_fails 19 = .ok (.getfield 40, 3) := by decide +kernel
theorem dX10_fails_22 : decode cX10_fails 22 = .ok (.iload_n 1, 1) := by decide +kernel
theorem dX10_fails_23 : decode cX10_fails 23 = .ok (.invokevirtual 139, 3) := by decide +kernel
theorem dX10_fails_26 : decode cX10_fails 26 = .ok (.aload_n 0, 1) := by decide +kernel
theorem dX10_fails_27 : decode cX10_fails 27 = .ok (.getfield 40, 3) := by decide +kernel
theorem dX10_fails_30 : decode cX10_fails 30 = .ok (.getfield 142, 3) := by decide +kernel
theorem dX10_fails_33 : decode cX10_fails 33 = .ok (.iload_n 2, 1) := by decide +kernel
theorem dX10_fails_34 : decode cX10_fails 34 = .ok (.iaload, 1) := by decide +kernel
theorem dX10_fails_35 : decode cX10_fails 35 = .ok (.invokestatic 145, 3) := by decide +kernel
theorem dX10_fails_38 : decode cX10_fails 38 = .ok (.ireturn, 1) := by decide +kernel
theorem dX10_lit_0 : decode cX10_lit 0 = .ok (.aload_n 0, 1) := by decide +kernel
theorem dX10_lit_1 : decode cX10_lit 1 = .ok (.iload_n 1, 1) := by decide +kernel
theorem dX10_lit_2 : decode cX10_lit 2 = .ok (.invokevirtual 133, 3) := by decide +kernel
theorem dX10_lit_5 : decode cX10_lit 5 = .ok (.ifCond .eq 11, 3) := by decide +kernel
theorem dX10_lit_8 : decode cX10_lit 8 = .ok (.aload_n 0, 1) := by decide +kernel
theorem dX10_lit_9 : decode cX10_lit 9 = .ok (.iload_n 2, 1) := by decide +kernel
theorem dX10_lit_10 : decode cX10_lit 10 = .ok (.invokevirtual 116, 3) := by decide +kernel
theorem dX10_lit_13 : decode cX10_lit 13 = .ok (.ifCond .ne 5, 3) := by decide +kernel
theorem dX10_lit_16 : decode cX10_lit 16 = .ok (.iconst (-1), 1) := by decide +kernel
theorem dX10_lit_17 : decode cX10_lit 17 = .ok (.ireturn, 1) := by decide +kernel
theorem dX10_lit_18 : decode cX10_lit 18 = .ok (.aload_n 0, 1) := by decide +kernel
theorem dX10_lit_19 : decode cX10_lit 19 = .ok (.getfield 49, 3) := by decide +kernel
theorem dX10_lit_22 : decode cX10_lit 22 = .ok (.iload_n 1, 1) := by decide +kernel
theorem dX10_lit_23 : decode cX10_lit 23 = .ok (.invokevirtual 148, 3) := by decide +kernel
theorem dX10_lit_26 : decode cX10_lit 26 = .ok (.aload_n 0, 1) := by decide +kernel
theorem dX10_lit_27 : decode cX10_lit 27 = .ok (.getfield 49, 3) := by decide +kernel
theorem dX10_lit_30 : decode cX10_lit 30 = .ok (.getfield 151, 3) := by decide +kernel
theorem dX10_lit_33 : decode cX10_lit 33 = .ok (.iload_n 2, 1) := by decide +kernel
theorem dX10_lit_34 : decode cX10_lit 34 = .ok (.iaload, 1) := by decide +kernel
theorem dX10_lit_35 : decode cX10_lit 35 = .ok (.invokestatic 145, 3) := by decide +kernel
theorem dX10_lit_38 : decode cX10_lit 38 = .ok (.ireturn, 1) := by decide +kernel
theorem dX10_first_0 : decode cX10_first 0 = .ok (.aload_n 0, 1) := by decide +kernel
theorem dX10_first_1 : decode cX10_first 1 = .ok (.iload_n 1, 1) := by decide +kernel
theorem dX10_first_2 : decode cX10_first 2 = .ok (.invokevirtual 133, 3) := by decide +kernel
theorem dX10_first_5 : decode cX10_first 5 = .ok (.ifCond .eq 12, 3) := by decide +kernel
theorem dX10_first_8 : decode cX10_first 8 = .ok (.iload_n 2, 1) := by decide +kernel
theorem dX10_first_9 : decode cX10_first 9 = .ok (.ifCond .lt 8, 3) := by decide +kernel
theorem dX10_first_12 : decode cX10_first 12 = .ok (.iload_n 2, 1) := by decide +kernel
theorem dX10_first_13 : decode cX10_first 13 = .ok (.iconst 1, 1) := by decide +kernel
theorem dX10_first_14 : decode cX10_first 14 = .ok (.if_icmp .le 5, 3) := by decide +kernel
theorem dX10_first_17 : decode cX10_first 17 = .ok (.iconst (-1), 1) := by decide +kernel
theorem dX10_first_18 : decode cX10_first 18 = .ok (.ireturn, 1) := by decide +kernel
theorem dX10_first_19 : decode cX10_first 19 = .ok (.aload_n 0, 1) := by decide +kernel
theorem dX10_first_20 : decode cX10_first 20 = .ok (.getfield 49, 3) := by decide +kernel
theorem dX10_first_23 : decode cX10_first 23 = .ok (.iload_n 1, 1) := by decide +kernel
theorem dX10_first_24 : decode cX10_first 24 = .ok (.invokevirtual 148, 3) := by decide +kernel
theorem dX10_first_27 : decode cX10_first 27 = .ok (.aload_n 0, 1) := by decide +kernel
theorem dX10_first_28 : decode cX10_first 28 = .ok (.getfield 49, 3) := by decide +kernel
theorem dX10_first_31 : decode cX10_first 31 = .ok (.invokevirtual 154, 3) := by decide +kernel
theorem dX10_first_34 : decode cX10_first 34 = .ok (.istore_n 3, 1) := by decide +kernel
theorem dX10_first_35 : decode cX10_first 35 = .ok (.iload_n 3, 1) := by decide +kernel
theorem dX10_first_36 : decode cX10_first 36 = .ok (.iconst (-1), 1) := by decide +kernel
theorem dX10_first_37 : decode cX10_first 37 = .ok (.if_icmp .eq 7, 3) := by decide +kernel
theorem dX10_first_40 : decode cX10_first 40 = .ok (.iload_n 2, 1) := by decide +kernel
theorem dX10_first_41 : decode cX10_first 41 = .ok (.ifCond .ne 5, 3) := by decide +kernel
theorem dX10_first_44 : decode cX10_first 44 = .ok (.iload_n 3, 1) := by decide +kernel
theorem dX10_first_45 : decode cX10_first 45 = .ok (.ireturn, 1) := by decide +kernel
theorem dX10_first_46 : decode cX10_first 46 = .ok (.iload_n 1, 1) := by decide +kernel
theorem dX10_first_47 : decode cX10_first 47 = .ok (.aload_n 0, 1) := by decide +kernel
theorem dX10_first_48 : decode cX10_first 48 = .ok (.getfield 28, 3) := by decide +kernel
theorem dX10_first_51 : decode cX10_first 51 = .ok (.getfield 123, 3) := by decide +kernel
theorem dX10_first_54 : decode cX10_first 54 = .ok (.iload_n 3, 1) := by decide +kernel
theorem dX10_first_55 : decode cX10_first 55 = .ok (.iaload, 1) := by decide +kernel
theorem dX10_first_56 : decode cX10_first 56 = .ok (.invokestatic 158, 3) := by decide +kernel
theorem dX10_first_59 : decode cX10_first 59 = .ok (.ifCond .eq 7, 3) := by decide +kernel
theorem dX10_first_62 : decode cX10_first 62 = .ok (.iconst 0, 1) := by decide +kernel
theorem dX10_first_63 : decode cX10_first 63 = .ok (.goto 4, 3) := by decide +kernel
theorem dX10_first_66 : decode cX10_first 66 = .ok (.iconst 1, 1) := by decide +kernel
theorem dX10_first_67 : decode cX10_first 67 = .ok (.ireturn, 1) := by decide +kernel
theorem dX10_horns_0 : decode cX10_horns 0 = .ok (.aload_n 0, 1) := by decide +kernel
theorem dX10_horns_1 : decode cX10_horns 1 = .ok (.iload_n 1, 1) := by decide +kernel
theorem dX10_horns_2 : decode cX10_horns 2 = .ok (.invokevirtual 133, 3) := by decide +kernel
theorem dX10_horns_5 : decode cX10_horns 5 = .ok (.ifCond .eq 14, 3) := by decide +kernel
theorem dX10_horns_8 : decode cX10_horns 8 = .ok (.iload_n 2, 1) := by decide +kernel
theorem dX10_horns_9 : decode cX10_horns 9 = .ok (.iconst 1, 1) := by decide +kernel
theorem dX10_horns_10 : decode cX10_horns 10 = .ok (.if_icmp .lt 9, 3) := by decide +kernel
theorem dX10_horns_13 : decode cX10_horns 13 = .ok (.iload_n 2, 1) := by decide +kernel
theorem dX10_horns_14 : decode cX10_horns 14 = .ok (.bipush 60, 2) := by decide +kernel
theorem dX10_horns_16 : decode cX10_horns 16 = .ok (.if_icmp .le 5, 3) := by decide +kernel
theorem dX10_horns_19 : decode cX10_horns 19 = .ok (.iconst (-1), 1) := by decide +kernel
theorem dX10_horns_20 : decode cX10_horns 20 = .ok (.ireturn, 1) := by decide +kernel
theorem dX10_horns_21 : decode cX10_horns 21 = .ok (.aload_n 0, 1) := by decide +kernel
theorem dX10_horns_22 : decode cX10_horns 22 = .ok (.getfield 49, 3) := by decide +kernel
theorem dX10_horns_25 : decode cX10_horns 25 = .ok (.iload_n 1, 1) := by decide +kernel
theorem dX10_horns_26 : decode cX10_horns 26 = .ok (.invokevirtual 148, 3) := by decide +kernel
theorem dX10_horns_29 : decode cX10_horns 29 = .ok (.aload_n 0, 1) := by decide +kernel
theorem dX10_horns_30 : decode cX10_horns 30 = .ok (.getfield 49, 3) := by decide +kernel
theorem dX10_horns_33 : decode cX10_horns 33 = .ok (.iload_n 2, 1) := by decide +kernel
theorem dX10_horns_34 : decode cX10_horns 34 = .ok (.invokevirtual 162, 3) := by decide +kernel
theorem dX10_horns_37 : decode cX10_horns 37 = .ok (.ireturn, 1) := by decide +kernel
theorem dX10_log_0 : decode cX10_log 0 = .ok (.aload_n 0, 1) := by decide +kernel
theorem dX10_log_1 : decode cX10_log 1 = .ok (.iload_n 1, 1) := by decide +kernel
theorem dX10_log_2 : decode cX10_log 2 = .ok (.invokevirtual 116, 3) := by decide +kernel
theorem dX10_log_5 : decode cX10_log 5 = .ok (.ifCond .eq 21, 3) := by decide +kernel
theorem dX10_log_8 : decode cX10_log 8 = .ok (.iload_n 2, 1) := by decide +kernel
theorem dX10_log_9 : decode cX10_log 9 = .ok (.invokestatic 165, 3) := by decide +kernel
theorem dX10_log_12 : decode cX10_log 12 = .ok (.ifCond .eq 14, 3) := by decide +kernel
theorem dX10_log_15 : decode cX10_log 15 = .ok (.aload_n 0, 1) := by decide +kernel
theorem dX10_log_16 : decode cX10_log 16 = .ok (.getfield 56, 3) := by decide +kernel
theorem dX10_log_19 : decode cX10_log 19 = .ok (.iload_n 2, 1) := by decide +kernel
theorem dX10_log_20 : decode cX10_log 20 = .ok (.invokevirtual 168, 3) := by decide +kernel
theorem dX10_log_23 : decode cX10_log 23 = .ok (.ifCond .ne 5, 3) := by decide +kernel
theorem dX10_log_26 : decode cX10_log 26 = .ok (.iconst (-1), 1) := by decide +kernel
theorem dX10_log_27 : decode cX10_log 27 = .ok (.ireturn, 1) := by decide +kernel
theorem dX10_log_28 : decode cX10_log 28 = .ok (.aload_n 0, 1) := by decide +kernel
theorem dX10_log_29 : decode cX10_log 29 = .ok (.getfield 56, 3) := by decide +kernel
theorem dX10_log_32 : decode cX10_log 32 = .ok (.iload_n 1, 1) := by decide +kernel
theorem dX10_log_33 : decode cX10_log 33 = .ok (.iload_n 2, 1) := by decide +kernel
theorem dX10_log_34 : decode cX10_log 34 = .ok (.invokevirtual 171, 3) := by decide +kernel
theorem dX10_log_37 : decode cX10_log 37 = .ok (.aload_n 0, 1) := by decide +kernel
theorem dX10_log_38 : decode cX10_log 38 = .ok (.getfield 56, 3) := by decide +kernel
theorem dX10_log_41 : decode cX10_log 41 = .ok (.getfield 110, 3) := by decide +kernel
theorem dX10_log_44 : decode cX10_log 44 = .ok (.ireturn, 1) := by decide +kernel
theorem dX10_erase_0 : decode cX10_erase 0 = .ok (.aload_n 0, 1) := by decide +kernel
theorem dX10_erase_1 : decode cX10_erase 1 = .ok (.getfield 56, 3) := by decide +kernel
theorem dX10_erase_4 : decode cX10_erase 4 = .ok (.getfield 110, 3) := by decide +kernel
theorem dX10_erase_7 : decode cX10_erase 7 = .ok (.istore_n 1, 1) := by decide +kernel
theorem dX10_erase_8 : decode cX10_erase 8 = .ok (.aload_n 0, 1) := by decide +kernel
theorem dX10_erase_9 : decode cX10_erase 9 = .ok (.getfield 56, 3) := by decide +kernel
theorem dX10_erase_12 : decode cX10_erase 12 = .ok (.iconst 0, 1) := by decide +kernel
theorem dX10_erase_13 : decode cX10_erase 13 = .ok (.putfield 110, 3) := by decide +kernel
theorem dX10_erase_16 : decode cX10_erase 16 = .ok (.iload_n 1, 1) := by decide +kernel
theorem dX10_erase_17 : decode cX10_erase 17 = .ok (.ireturn, 1) := by decide +kernel
theorem dX10_joined_0 : decode cX10_joined 0 = .ok (.iload_n 1, 1) := by decide +kernel
theorem dX10_joined_1 : decode cX10_joined 1 = .ok (.ifCond .lt 9, 3) := by decide +kernel
theorem dX10_joined_4 : decode cX10_joined 4 = .ok (.iload_n 1, 1) := by decide +kernel
theorem dX10_joined_5 : decode cX10_joined 5 = .ok (.bipush 60, 2) := by decide +kernel
theorem dX10_joined_7 : decode cX10_joined 7 = .ok (.if_icmp .le 5, 3) := by decide +kernel
theorem dX10_joined_10 : decode cX10_joined 10 = .ok (.iconst (-1), 1) := by decide +kernel
theorem dX10_joined_11 : decode cX10_joined 11 = .ok (.ireturn, 1) := by decide +kernel
theorem dX10_joined_12 : decode cX10_joined 12 = .ok (.aload_n 0, 1) := by decide +kernel
theorem dX10_joined_13 : decode cX10_joined 13 = .ok (.getfield 56, 3) := by decide +kernel
theorem dX10_joined_16 : decode cX10_joined 16 = .ok (.iload_n 1, 1) := by decide +kernel
theorem dX10_joined_17 : decode cX10_joined 17 = .ok (.invokevirtual 175, 3) := by decide +kernel
theorem dX10_joined_20 : decode cX10_joined 20 = .ok (.ireturn, 1) := by decide +kernel
theorem dX10_off_0 : decode cX10_off 0 = .ok (.iload_n 1, 1) := by decide +kernel
theorem dX10_off_1 : decode cX10_off 1 = .ok (.ifCond .lt 9, 3) := by decide +kernel
theorem dX10_off_4 : decode cX10_off 4 = .ok (.iload_n 1, 1) := by decide +kernel
theorem dX10_off_5 : decode cX10_off 5 = .ok (.bipush 20, 2) := by decide +kernel
theorem dX10_off_7 : decode cX10_off 7 = .ok (.if_icmp .le 5, 3) := by decide +kernel
theorem dX10_off_10 : decode cX10_off 10 = .ok (.iconst 0, 1) := by decide +kernel
theorem dX10_off_11 : decode cX10_off 11 = .ok (.ireturn, 1) := by decide +kernel
theorem dX10_off_12 : decode cX10_off 12 = .ok (.aload_n 0, 1) := by decide +kernel
theorem dX10_off_13 : decode cX10_off 13 = .ok (.getfield 65, 3) := by decide +kernel
theorem dX10_off_16 : decode cX10_off 16 = .ok (.iload_n 1, 1) := by decide +kernel
theorem dX10_off_17 : decode cX10_off 17 = .ok (.putfield 178, 3) := by decide +kernel
theorem dX10_off_20 : decode cX10_off 20 = .ok (.iconst 1, 1) := by decide +kernel
theorem dX10_off_21 : decode cX10_off 21 = .ok (.ireturn, 1) := by decide +kernel
theorem dX10_explain_0 : decode cX10_explain 0 = .ok (.iload_n 1, 1) := by decide +kernel
theorem dX10_explain_1 : decode cX10_explain 1 = .ok (.ifCond .lt 16, 3) := by decide +kernel
theorem dX10_explain_4 : decode cX10_explain 4 = .ok (.iload_n 1, 1) := by decide +kernel
theorem dX10_explain_5 : decode cX10_explain 5 = .ok (.bipush 7, 2) := by decide +kernel
theorem dX10_explain_7 : decode cX10_explain 7 = .ok (.if_icmp .gt 10, 3) := by decide +kernel
theorem dX10_explain_10 : decode cX10_explain 10 = .ok (.aload_n 0, 1) := by decide +kernel
theorem dX10_explain_11 : decode cX10_explain 11 = .ok (.invokevirtual 181, 3) := by decide +kernel
theorem dX10_explain_14 : decode cX10_explain 14 = .ok (.ifCond .ne 5, 3) := by decide +kernel
theorem dX10_explain_17 : decode cX10_explain 17 = .ok (.iconst (-1), 1) := by decide +kernel
theorem dX10_explain_18 : decode cX10_explain 18 = .ok (.ireturn, 1) := by decide +kernel
theorem dX10_explain_19 : decode cX10_explain 19 = .ok (.aload_n 0, 1) := by decide +kernel
theorem dX10_explain_20 : decode cX10_explain 20 = .ok (.getfield 65, 3) := by decide +kernel
theorem dX10_explain_23 : decode cX10_explain 23 = .ok (.iconst (-1), 1) := by decide +kernel
theorem dX10_explain_24 : decode cX10_explain 24 = .ok (.iconst 0, 1) := by decide +kernel
theorem dX10_explain_25 : decode cX10_explain 25 = .ok (.invokevirtual 185, 3) := by decide +kernel
theorem dX10_explain_28 : decode cX10_explain 28 = .ok (.iload_n 1, 1) := by decide +kernel
theorem dX10_explain_29 : decode cX10_explain 29 = .ok (.tableswitch 99 0 6 #[43, 51, 59, 67, 75, 83, 91], 43) := by decide +kernel
theorem dX10_explain_72 : decode cX10_explain 72 = .ok (.aload_n 0, 1) := by decide +kernel
theorem dX10_explain_73 : decode cX10_explain 73 = .ok (.getfield 65, 3) := by decide +kernel
theorem dX10_explain_76 : decode cX10_explain 76 = .ok (.getfield 188, 3) := by decide +kernel
theorem dX10_explain_79 : decode cX10_explain 79 = .ok (.ireturn, 1) := by decide +kernel
theorem dX10_explain_80 : decode cX10_explain 80 = .ok (.aload_n 0, 1) := by decide +kernel
theorem dX10_explain_81 : decode cX10_explain 81 = .ok (.getfield 65, 3) := by decide +kernel
theorem dX10_explain_84 : decode cX10_explain 84 = .ok (.getfield 191, 3) := by decide +kernel
theorem dX10_explain_87 : decode cX10_explain 87 = .ok (.ireturn, 1) := by decide +kernel
theorem dX10_explain_88 : decode cX10_explain 88 = .ok (.aload_n 0, 1) := by decide +kernel
theorem dX10_explain_89 : decode cX10_explain 89 = .ok (.getfield 65, 3) := by decide +kernel
theorem dX10_explain_92 : decode cX10_explain 92 = .ok (.getfield 194, 3) := by decide +kernel
theorem dX10_explain_95 : decode cX10_explain 95 = .ok (.ireturn, 1) := by decide +kernel
theorem dX10_explain_96 : decode cX10_explain 96 = .ok (.aload_n 0, 1) := by decide +kernel
theorem dX10_explain_97 : decode cX10_explain 97 = .ok (.getfield 65, 3) := by decide +kernel
theorem dX10_explain_100 : decode cX10_explain 100 = .ok (.getfield 197, 3) := by decide +kernel
theorem dX10_explain_103 : decode cX10_explain 103 = .ok (.ireturn, 1) := by decide +kernel
theorem dX10_explain_104 : decode cX10_explain 104 = .ok (.aload_n 0, 1) := by decide +kernel
theorem dX10_explain_105 : decode cX10_explain 105 = .ok (.getfield 65, 3) := by decide +kernel
theorem dX10_explain_108 : decode cX10_explain 108 = .ok (.getfield 200, 3) := by decide +kernel
theorem dX10_explain_111 : decode cX10_explain 111 = .ok (.ireturn, 1) := by decide +kernel
theorem dX10_explain_112 : decode cX10_explain 112 = .ok (.aload_n 0, 1) := by decide +kernel
theorem dX10_explain_113 : decode cX10_explain 113 = .ok (.getfield 65, 3) := by decide +kernel
theorem dX10_explain_116 : decode cX10_explain 116 = .ok (.getfield 203, 3) := by decide +kernel
theorem dX10_explain_119 : decode cX10_explain 119 = .ok (.ireturn, 1) := by decide +kernel
theorem dX10_explain_120 : decode cX10_explain 120 = .ok (.aload_n 0, 1) := by decide +kernel
theorem dX10_explain_121 : decode cX10_explain 121 = .ok (.getfield 65, 3) := by decide +kernel
theorem dX10_explain_124 : decode cX10_explain 124 = .ok (.getfield 206, 3) := by decide +kernel
theorem dX10_explain_127 : decode cX10_explain 127 = .ok (.ireturn, 1) := by decide +kernel
theorem dX10_explain_128 : decode cX10_explain 128 = .ok (.aload_n 0, 1) := by decide +kernel
theorem dX10_explain_129 : decode cX10_explain 129 = .ok (.getfield 65, 3) := by decide +kernel
theorem dX10_explain_132 : decode cX10_explain 132 = .ok (.getfield 209, 3) := by decide +kernel
theorem dX10_explain_135 : decode cX10_explain 135 = .ok (.ireturn, 1) := by decide +kernel
theorem dX10_altered_0 : decode cX10_altered 0 = .ok (.iload_n 1, 1) := by decide +kernel
theorem dX10_altered_1 : decode cX10_altered 1 = .ok (.ifCond .lt 21, 3) := by decide +kernel
theorem dX10_altered_4 : decode cX10_altered 4 = .ok (.iload_n 1, 1) := by decide +kernel
theorem dX10_altered_5 : decode cX10_altered 5 = .ok (.aload_n 0, 1) := by decide +kernel
theorem dX10_altered_6 : decode cX10_altered 6 = .ok (.getfield 56, 3) := by decide +kernel
theorem dX10_altered_9 : decode cX10_altered 9 = .ok (.getfield 110, 3) := by decide +kernel
theorem dX10_altered_12 : decode cX10_altered 12 = .ok (.if_icmp .ge 10, 3) := by decide +kernel
theorem dX10_altered_15 : decode cX10_altered 15 = .ok (.iload_n 2, 1) := by decide +kernel
theorem dX10_altered_16 : decode cX10_altered 16 = .ok (.invokestatic 165, 3) := by decide +kernel
theorem dX10_altered_19 : decode cX10_altered 19 = .ok (.ifCond .ne 5, 3) := by decide +kernel
theorem dX10_altered_22 : decode cX10_altered 22 = .ok (.iconst (-1), 1) := by decide +kernel
theorem dX10_altered_23 : decode cX10_altered 23 = .ok (.ireturn, 1) := by decide +kernel
theorem dX10_altered_24 : decode cX10_altered 24 = .ok (.aload_n 0, 1) := by decide +kernel
theorem dX10_altered_25 : decode cX10_altered 25 = .ok (.getfield 65, 3) := by decide +kernel
theorem dX10_altered_28 : decode cX10_altered 28 = .ok (.iload_n 1, 1) := by decide +kernel
theorem dX10_altered_29 : decode cX10_altered 29 = .ok (.iload_n 2, 1) := by decide +kernel
theorem dX10_altered_30 : decode cX10_altered 30 = .ok (.invokevirtual 185, 3) := by decide +kernel
theorem dX10_altered_33 : decode cX10_altered 33 = .ok (.aload_n 0, 1) := by decide +kernel
theorem dX10_altered_34 : decode cX10_altered 34 = .ok (.getfield 65, 3) := by decide +kernel
theorem dX10_altered_37 : decode cX10_altered 37 = .ok (.getfield 188, 3) := by decide +kernel
theorem dX10_altered_40 : decode cX10_altered 40 = .ok (.ireturn, 1) := by decide +kernel
theorem dX10_rest_0 : decode cX10_rest 0 = .ok (.iload_n 1, 1) := by decide +kernel
theorem dX10_rest_1 : decode cX10_rest 1 = .ok (.ifCond .lt 29, 3) := by decide +kernel
theorem dX10_rest_4 : decode cX10_rest 4 = .ok (.iload_n 1, 1) := by decide +kernel
theorem dX10_rest_5 : decode cX10_rest 5 = .ok (.aload_n 0, 1) := by decide +kernel
theorem dX10_rest_6 : decode cX10_rest 6 = .ok (.getfield 28, 3) := by decide +kernel
theorem dX10_rest_9 : decode cX10_rest 9 = .ok (.getfield 212, 3) := by decide +kernel
theorem dX10_rest_12 : decode cX10_rest 12 = .ok (.if_icmp .ge 18, 3) := by decide +kernel
theorem dX10_rest_15 : decode cX10_rest 15 = .ok (.aload_n 0, 1) := by decide +kernel
theorem dX10_rest_16 : decode cX10_rest 16 = .ok (.getfield 49, 3) := by decide +kernel
theorem dX10_rest_19 : decode cX10_rest 19 = .ok (.getfield 215, 3) := by decide +kernel
theorem dX10_rest_22 : decode cX10_rest 22 = .ok (.iload_n 1, 1) := by decide +kernel
theorem dX10_rest_23 : decode cX10_rest 23 = .ok (.invokestatic 158, 3) := by decide +kernel
theorem dX10_rest_26 : decode cX10_rest 26 = .ok (.iload_n 2, 1) := by decide +kernel
theorem dX10_rest_27 : decode cX10_rest 27 = .ok (.if_icmp .ne 5, 3) := by decide +kernel
theorem dX10_rest_30 : decode cX10_rest 30 = .ok (.iconst 0, 1) := by decide +kernel
theorem dX10_rest_31 : decode cX10_rest 31 = .ok (.ireturn, 1) := by decide +kernel
theorem dX10_rest_32 : decode cX10_rest 32 = .ok (.aload_n 0, 1) := by decide +kernel
theorem dX10_rest_33 : decode cX10_rest 33 = .ok (.getfield 49, 3) := by decide +kernel
theorem dX10_rest_36 : decode cX10_rest 36 = .ok (.dup, 1) := by decide +kernel
theorem dX10_rest_37 : decode cX10_rest 37 = .ok (.getfield 215, 3) := by decide +kernel
theorem dX10_rest_40 : decode cX10_rest 40 = .ok (.iconst 1, 1) := by decide +kernel
theorem dX10_rest_41 : decode cX10_rest 41 = .ok (.iload_n 1, 1) := by decide +kernel
theorem dX10_rest_42 : decode cX10_rest 42 = .ok (.ishl, 1) := by decide +kernel
theorem dX10_rest_43 : decode cX10_rest 43 = .ok (.ixor, 1) := by decide +kernel
theorem dX10_rest_44 : decode cX10_rest 44 = .ok (.putfield 215, 3) := by decide +kernel
theorem dX10_rest_47 : decode cX10_rest 47 = .ok (.iconst 1, 1) := by decide +kernel
theorem dX10_rest_48 : decode cX10_rest 48 = .ok (.ireturn, 1) := by decide +kernel
theorem dX10_till_0 : decode cX10_till 0 = .ok (.iload_n 1, 1) := by decide +kernel
theorem dX10_till_1 : decode cX10_till 1 = .ok (.iconst 1, 1) := by decide +kernel
theorem dX10_till_2 : decode cX10_till 2 = .ok (.if_icmp .lt 10, 3) := by decide +kernel
theorem dX10_till_5 : decode cX10_till 5 = .ok (.iload_n 1, 1) := by decide +kernel
theorem dX10_till_6 : decode cX10_till 6 = .ok (.sipush 600, 3) := by decide +kernel
theorem dX10_till_9 : decode cX10_till 9 = .ok (.if_icmp .le 5, 3) := by decide +kernel
theorem dX10_till_12 : decode cX10_till 12 = .ok (.iconst 0, 1) := by decide +kernel
theorem dX10_till_13 : decode cX10_till 13 = .ok (.ireturn, 1) := by decide +kernel
theorem dX10_till_14 : decode cX10_till 14 = .ok (.aload_n 0, 1) := by decide +kernel
theorem dX10_till_15 : decode cX10_till 15 = .ok (.getfield 74, 3) := by decide +kernel
theorem dX10_till_18 : decode cX10_till 18 = .ok (.iload_n 1, 1) := by decide +kernel
theorem dX10_till_19 : decode cX10_till 19 = .ok (.putfield 218, 3) := by decide +kernel
theorem dX10_till_22 : decode cX10_till 22 = .ok (.iconst 1, 1) := by decide +kernel
theorem dX10_till_23 : decode cX10_till 23 = .ok (.ireturn, 1) := by decide +kernel
theorem dX10_board_0 : decode cX10_board 0 = .ok (.aload_n 0, 1) := by decide +kernel
theorem dX10_board_1 : decode cX10_board 1 = .ok (.iload_n 1, 1) := by decide +kernel
theorem dX10_board_2 : decode cX10_board 2 = .ok (.invokevirtual 133, 3) := by decide +kernel
theorem dX10_board_5 : decode cX10_board 5 = .ok (.ifCond .eq 19, 3) := by decide +kernel
theorem dX10_board_8 : decode cX10_board 8 = .ok (.iload_n 2, 1) := by decide +kernel
theorem dX10_board_9 : decode cX10_board 9 = .ok (.invokestatic 165, 3) := by decide +kernel
theorem dX10_board_12 : decode cX10_board 12 = .ok (.ifCond .eq 12, 3) := by decide +kernel
theorem dX10_board_15 : decode cX10_board 15 = .ok (.iload_n 3, 1) := by decide +kernel
theorem dX10_board_16 : decode cX10_board 16 = .ok (.ifCond .lt 8, 3) := by decide +kernel
theorem dX10_board_19 : decode cX10_board 19 = .ok (.iload_n 3, 1) := by decide +kernel
theorem dX10_board_20 : decode cX10_board 20 = .ok (.iconst 1, 1) := by decide +kernel
theorem dX10_board_21 : decode cX10_board 21 = .ok (.if_icmp .le 5, 3) := by decide +kernel
theorem dX10_board_24 : decode cX10_board 24 = .ok (.iconst (-1), 1) := by decide +kernel
theorem dX10_board_25 : decode cX10_board 25 = .ok (.ireturn, 1) := by decide +kernel
theorem dX10_board_26 : decode cX10_board 26 = .ok (.aload_n 0, 1) := by decide +kernel
theorem dX10_board_27 : decode cX10_board 27 = .ok (.getfield 49, 3) := by decide +kernel
theorem dX10_board_30 : decode cX10_board 30 = .ok (.iload_n 1, 1) := by decide +kernel
theorem dX10_board_31 : decode cX10_board 31 = .ok (.invokevirtual 148, 3) := by decide +kernel
theorem dX10_board_34 : decode cX10_board 34 = .ok (.aload_n 0, 1) := by decide +kernel
theorem dX10_board_35 : decode cX10_board 35 = .ok (.getfield 49, 3) := by decide +kernel
theorem dX10_board_38 : decode cX10_board 38 = .ok (.iload_n 2, 1) := by decide +kernel
theorem dX10_board_39 : decode cX10_board 39 = .ok (.invokevirtual 221, 3) := by decide +kernel
theorem dX10_board_42 : decode cX10_board 42 = .ok (.istore 4, 2) := by decide +kernel
theorem dX10_board_44 : decode cX10_board 44 = .ok (.iload_n 3, 1) := by decide +kernel
theorem dX10_board_45 : decode cX10_board 45 = .ok (.ifCond .ne 8, 3) := by decide +kernel
theorem dX10_board_48 : decode cX10_board 48 = .ok (.iload 4, 2) := by decide +kernel
theorem dX10_board_50 : decode cX10_board 50 = .ok (.goto 19, 3) := by decide +kernel
theorem dX10_board_53 : decode cX10_board 53 = .ok (.aload_n 0, 1) := by decide +kernel
theorem dX10_board_54 : decode cX10_board 54 = .ok (.getfield 49, 3) := by decide +kernel
theorem dX10_board_57 : decode cX10_board 57 = .ok (.iload 4, 2) := by decide +kernel
theorem dX10_board_59 : decode cX10_board 59 = .ok (.aload_n 0, 1) := by decide +kernel
theorem dX10_board_60 : decode cX10_board 60 = .ok (.getfield 49, 3) := by decide +kernel
theorem dX10_board_63 : decode cX10_board 63 = .ok (.getfield 215, 3) := by decide +kernel
theorem dX10_board_66 : decode cX10_board 66 = .ok (.invokevirtual 224, 3) := by decide +kernel
theorem dX10_board_69 : decode cX10_board 69 = .ok (.ireturn, 1) := by decide +kernel
theorem dX10_harm_0 : decode cX10_harm 0 = .ok (.iload_n 1, 1) := by decide +kernel
theorem dX10_harm_1 : decode cX10_harm 1 = .ok (.ifCond .lt 15, 3) := by decide +kernel
theorem dX10_harm_4 : decode cX10_harm 4 = .ok (.iload_n 1, 1) := by decide +kernel
theorem dX10_harm_5 : decode cX10_harm 5 = .ok (.iconst 2, 1) := by decide +kernel
theorem dX10_harm_6 : decode cX10_harm 6 = .ok (.if_icmp .gt 10, 3) := by decide +kernel
theorem dX10_harm_9 : decode cX10_harm 9 = .ok (.aload_n 0, 1) := by decide +kernel
theorem dX10_harm_10 : decode cX10_harm 10 = .ok (.invokevirtual 181, 3) := by decide +kernel
theorem dX10_harm_13 : decode cX10_harm 13 = .ok (.ifCond .ne 5, 3) := by decide +kernel
theorem dX10_harm_16 : decode cX10_harm 16 = .ok (.iconst (-1), 1) := by decide +kernel
theorem dX10_harm_17 : decode cX10_harm 17 = .ok (.ireturn, 1) := by decide +kernel
theorem dX10_harm_18 : decode cX10_harm 18 = .ok (.aload_n 0, 1) := by decide +kernel
theorem dX10_harm_19 : decode cX10_harm 19 = .ok (.getfield 74, 3) := by decide +kernel
theorem dX10_harm_22 : decode cX10_harm 22 = .ok (.invokevirtual 228, 3) := by decide +kernel
theorem dX10_harm_25 : decode cX10_harm 25 = .ok (.iload_n 1, 1) := by decide +kernel
theorem dX10_harm_26 : decode cX10_harm 26 = .ok (.iconst 2, 1) := by decide +kernel
theorem dX10_harm_27 : decode cX10_harm 27 = .ok (.if_icmp .ne 11, 3) := by decide +kernel
theorem dX10_harm_30 : decode cX10_harm 30 = .ok (.aload_n 0, 1) := by decide +kernel
theorem dX10_harm_31 : decode cX10_harm 31 = .ok (.getfield 74, 3) := by decide +kernel
theorem dX10_harm_34 : decode cX10_harm 34 = .ok (.invokevirtual 231, 3) := by decide +kernel
theorem dX10_harm_37 : decode cX10_harm 37 = .ok (.ireturn, 1) := by decide +kernel
theorem dX10_harm_38 : decode cX10_harm 38 = .ok (.aload_n 0, 1) := by decide +kernel
theorem dX10_harm_39 : decode cX10_harm 39 = .ok (.getfield 74, 3) := by decide +kernel
theorem dX10_harm_42 : decode cX10_harm 42 = .ok (.aload_n 0, 1) := by decide +kernel
theorem dX10_harm_43 : decode cX10_harm 43 = .ok (.getfield 49, 3) := by decide +kernel
theorem dX10_harm_46 : decode cX10_harm 46 = .ok (.getfield 215, 3) := by decide +kernel
theorem dX10_harm_49 : decode cX10_harm 49 = .ok (.invokevirtual 234, 3) := by decide +kernel
theorem dX10_harm_52 : decode cX10_harm 52 = .ok (.iload_n 1, 1) := by decide +kernel
theorem dX10_harm_53 : decode cX10_harm 53 = .ok (.ifCond .ne 13, 3) := by decide +kernel
theorem dX10_harm_56 : decode cX10_harm 56 = .ok (.aload_n 0, 1) := by decide +kernel
theorem dX10_harm_57 : decode cX10_harm 57 = .ok (.getfield 74, 3) := by decide +kernel
theorem dX10_harm_60 : decode cX10_harm 60 = .ok (.invokevirtual 237, 3) := by decide +kernel
theorem dX10_harm_63 : decode cX10_harm 63 = .ok (.goto 10, 3) := by decide +kernel
theorem dX10_harm_66 : decode cX10_harm 66 = .ok (.aload_n 0, 1) := by decide +kernel
theorem dX10_harm_67 : decode cX10_harm 67 = .ok (.getfield 74, 3) := by decide +kernel
theorem dX10_harm_70 : decode cX10_harm 70 = .ok (.invokevirtual 240, 3) := by decide +kernel
theorem dX10_harm_73 : decode cX10_harm 73 = .ok (.ireturn, 1) := by decide +kernel
theorem dX10_change_0 : decode cX10_change 0 = .ok (.aload_n 0, 1) := by decide +kernel
theorem dX10_change_1 : decode cX10_change 1 = .ok (.iload_n 1, 1) := by decide +kernel
theorem dX10_change_2 : decode cX10_change 2 = .ok (.invokevirtual 116, 3) := by decide +kernel
theorem dX10_change_5 : decode cX10_change 5 = .ok (.ifCond .eq 16, 3) := by decide +kernel
theorem dX10_change_8 : decode cX10_change 8 = .ok (.aload_n 0, 1) := by decide +kernel
theorem dX10_change_9 : decode cX10_change 9 = .ok (.iload_n 2, 1) := by decide +kernel
theorem dX10_change_10 : decode cX10_change 10 = .ok (.invokevirtual 116, 3) := by decide +kernel
theorem dX10_change_13 : decode cX10_change 13 = .ok (.ifCond .eq 8, 3) := by decide +kernel
theorem dX10_change_16 : decode cX10_change 16 = .ok (.iload_n 1, 1) := by decide +kernel
theorem dX10_change_17 : decode cX10_change 17 = .ok (.iload_n 2, 1) := by decide +kernel
theorem dX10_change_18 : decode cX10_change 18 = .ok (.if_icmp .ne 5, 3) := by decide +kernel
theorem dX10_change_21 : decode cX10_change 21 = .ok (.iconst 0, 1) := by decide +kernel
theorem dX10_change_22 : decode cX10_change 22 = .ok (.ireturn, 1) := by decide +kernel
theorem dX10_change_23 : decode cX10_change 23 = .ok (.aload_n 0, 1) := by decide +kernel
theorem dX10_change_24 : decode cX10_change 24 = .ok (.getfield 83, 3) := by decide +kernel
theorem dX10_change_27 : decode cX10_change 27 = .ok (.iload_n 1, 1) := by decide +kernel
theorem dX10_change_28 : decode cX10_change 28 = .ok (.iload_n 2, 1) := by decide +kernel
theorem dX10_change_29 : decode cX10_change 29 = .ok (.invokevirtual 243, 3) := by decide +kernel
theorem dX10_change_32 : decode cX10_change 32 = .ok (.iconst 1, 1) := by decide +kernel
theorem dX10_change_33 : decode cX10_change 33 = .ok (.ireturn, 1) := by decide +kernel
theorem dX10_told_0 : decode cX10_told 0 = .ok (.aload_n 0, 1) := by decide +kernel
theorem dX10_told_1 : decode cX10_told 1 = .ok (.iload_n 1, 1) := by decide +kernel
theorem dX10_told_2 : decode cX10_told 2 = .ok (.invokevirtual 136, 3) := by decide +kernel
theorem dX10_told_5 : decode cX10_told 5 = .ok (.ifCond .eq 10, 3) := by decide +kernel
theorem dX10_told_8 : decode cX10_told 8 = .ok (.iload_n 2, 1) := by decide +kernel
theorem dX10_told_9 : decode cX10_told 9 = .ok (.invokestatic 246, 3) := by decide +kernel
theorem dX10_told_12 : decode cX10_told 12 = .ok (.ifCond .ne 5, 3) := by decide +kernel
theorem dX10_told_15 : decode cX10_told 15 = .ok (.iconst (-1), 1) := by decide +kernel
theorem dX10_told_16 : decode cX10_told 16 = .ok (.ireturn, 1) := by decide +kernel
theorem dX10_told_17 : decode cX10_told 17 = .ok (.aload_n 0, 1) := by decide +kernel
theorem dX10_told_18 : decode cX10_told 18 = .ok (.getfield 83, 3) := by decide +kernel
theorem dX10_told_21 : decode cX10_told 21 = .ok (.invokevirtual 249, 3) := by decide +kernel
theorem dX10_told_24 : decode cX10_told 24 = .ok (.aload_n 0, 1) := by decide +kernel
theorem dX10_told_25 : decode cX10_told 25 = .ok (.getfield 83, 3) := by decide +kernel
theorem dX10_told_28 : decode cX10_told 28 = .ok (.iload_n 1, 1) := by decide +kernel
theorem dX10_told_29 : decode cX10_told 29 = .ok (.iload_n 2, 1) := by decide +kernel
theorem dX10_told_30 : decode cX10_told 30 = .ok (.invokevirtual 252, 3) := by decide +kernel
theorem dX10_told_33 : decode cX10_told 33 = .ok (.ireturn, 1) := by decide +kernel
theorem dX10_wall_0 : decode cX10_wall 0 = .ok (.iload_n 2, 1) := by decide +kernel
theorem dX10_wall_1 : decode cX10_wall 1 = .ok (.ifCond .lt 22, 3) := by decide +kernel
theorem dX10_wall_4 : decode cX10_wall 4 = .ok (.iload_n 2, 1) := by decide +kernel
theorem dX10_wall_5 : decode cX10_wall 5 = .ok (.iconst 3, 1) := by decide +kernel
theorem dX10_wall_6 : decode cX10_wall 6 = .ok (.if_icmp .gt 17, 3) := by decide +kernel
theorem dX10_wall_9 : decode cX10_wall 9 = .ok (.iload_n 1, 1) := by decide +kernel
theorem dX10_wall_10 : decode cX10_wall 10 = .ok (.invokestatic 246, 3) := by decide +kernel
theorem dX10_wall_13 : decode cX10_wall 13 = .ok (.ifCond .eq 10, 3) := by decide +kernel
theorem dX10_wall_16 : decode cX10_wall 16 = .ok (.aload_n 0, 1) := by decide +kernel
theorem dX10_wall_17 : decode cX10_wall 17 = .ok (.invokevirtual 181, 3) := by decide +kernel
theorem dX10_wall_20 : decode cX10_wall 20 = .ok (.ifCond .ne 5, 3) := by decide +kernel
theorem dX10_wall_23 : decode cX10_wall 23 = .ok (.iconst (-1), 1) := by decide +kernel
theorem dX10_wall_24 : decode cX10_wall 24 = .ok (.ireturn, 1) := by decide +kernel
theorem dX10_wall_25 : decode cX10_wall 25 = .ok (.aload_n 0, 1) := by decide +kernel
theorem dX10_wall_26 : decode cX10_wall 26 = .ok (.getfield 83, 3) := by decide +kernel
theorem dX10_wall_29 : decode cX10_wall 29 = .ok (.invokevirtual 249, 3) := by decide +kernel
theorem dX10_wall_32 : decode cX10_wall 32 = .ok (.iload_n 2, 1) := by decide +kernel
theorem dX10_wall_33 : decode cX10_wall 33 = .ok (.ifCond .ne 12, 3) := by decide +kernel
theorem dX10_wall_36 : decode cX10_wall 36 = .ok (.aload_n 0, 1) := by decide +kernel
theorem dX10_wall_37 : decode cX10_wall 37 = .ok (.getfield 83, 3) := by decide +kernel
theorem dX10_wall_40 : decode cX10_wall 40 = .ok (.iload_n 1, 1) := by decide +kernel
theorem dX10_wall_41 : decode cX10_wall 41 = .ok (.invokevirtual 255, 3) := by decide +kernel
theorem dX10_wall_44 : decode cX10_wall 44 = .ok (.ireturn, 1) := by decide +kernel
theorem dX10_wall_45 : decode cX10_wall 45 = .ok (.aload_n 0, 1) := by decide +kernel
theorem dX10_wall_46 : decode cX10_wall 46 = .ok (.getfield 83, 3) := by decide +kernel
theorem dX10_wall_49 : decode cX10_wall 49 = .ok (.iload_n 1, 1) := by decide +kernel
theorem dX10_wall_50 : decode cX10_wall 50 = .ok (.invokevirtual 258, 3) := by decide +kernel
theorem dX10_wall_53 : decode cX10_wall 53 = .ok (.aload_n 0, 1) := by decide +kernel
theorem dX10_wall_54 : decode cX10_wall 54 = .ok (.getfield 83, 3) := by decide +kernel
theorem dX10_wall_57 : decode cX10_wall 57 = .ok (.getfield 261, 3) := by decide +kernel
theorem dX10_wall_60 : decode cX10_wall 60 = .ok (.iconst (-1), 1) := by decide +kernel
theorem dX10_wall_61 : decode cX10_wall 61 = .ok (.if_icmp .ne 5, 3) := by decide +kernel
theorem dX10_wall_64 : decode cX10_wall 64 = .ok (.iconst (-1), 1) := by decide +kernel
theorem dX10_wall_65 : decode cX10_wall 65 = .ok (.ireturn, 1) := by decide +kernel
theorem dX10_wall_66 : decode cX10_wall 66 = .ok (.iload_n 2, 1) := by decide +kernel
theorem dX10_wall_67 : decode cX10_wall 67 = .ok (.lookupswitch 41 #[(1, 25), (2, 33)], 25) := by decide +kernel
theorem dX10_wall_92 : decode cX10_wall 92 = .ok (.aload_n 0, 1) := by decide +kernel
theorem dX10_wall_93 : decode cX10_wall 93 = .ok (.getfield 83, 3) := by decide +kernel
theorem dX10_wall_96 : decode cX10_wall 96 = .ok (.getfield 261, 3) := by decide +kernel
theorem dX10_wall_99 : decode cX10_wall 99 = .ok (.ireturn, 1) := by decide +kernel
theorem dX10_wall_100 : decode cX10_wall 100 = .ok (.aload_n 0, 1) := by decide +kernel
theorem dX10_wall_101 : decode cX10_wall 101 = .ok (.getfield 83, 3) := by decide +kernel
theorem dX10_wall_104 : decode cX10_wall 104 = .ok (.getfield 264, 3) := by decide +kernel
theorem dX10_wall_107 : decode cX10_wall 107 = .ok (.ireturn, 1) := by decide +kernel
theorem dX10_wall_108 : decode cX10_wall 108 = .ok (.aload_n 0, 1) := by decide +kernel
theorem dX10_wall_109 : decode cX10_wall 109 = .ok (.getfield 83, 3) := by decide +kernel
theorem dX10_wall_112 : decode cX10_wall 112 = .ok (.getfield 267, 3) := by decide +kernel
theorem dX10_wall_115 : decode cX10_wall 115 = .ok (.ireturn, 1) := by decide +kernel
theorem dX10_count_0 : decode cX10_count 0 = .ok (.iload_n 1, 1) := by decide +kernel
theorem dX10_count_1 : decode cX10_count 1 = .ok (.tableswitch 114 0 7 #[47, 55, 63, 71, 79, 87, 98, 106], 47) := by decide +kernel
theorem dX10_count_48 : decode cX10_count 48 = .ok (.aload_n 0, 1) := by decide +kernel
theorem dX10_count_49 : decode cX10_count 49 = .ok (.getfield 28, 3) := by decide +kernel
theorem dX10_count_52 : decode cX10_count 52 = .ok (.getfield 113, 3) := by decide +kernel
theorem dX10_count_55 : decode cX10_count 55 = .ok (.ireturn, 1) := by decide +kernel
theorem dX10_count_56 : decode cX10_count 56 = .ok (.aload_n 0, 1) := by decide +kernel
theorem dX10_count_57 : decode cX10_count 57 = .ok (.getfield 28, 3) := by decide +kernel
theorem dX10_count_60 : decode cX10_count 60 = .ok (.getfield 270, 3) := by decide +kernel
theorem dX10_count_63 : decode cX10_count 63 = .ok (.ireturn, 1) := by decide +kernel
theorem dX10_count_64 : decode cX10_count 64 = .ok (.aload_n 0, 1) := by decide +kernel
theorem dX10_count_65 : decode cX10_count 65 = .ok (.getfield 28, 3) := by decide +kernel
theorem dX10_count_68 : decode cX10_count 68 = .ok (.getfield 273, 3) := by decide +kernel
theorem dX10_count_71 : decode cX10_count 71 = .ok (.ireturn, 1) := by decide +kernel
theorem dX10_count_72 : decode cX10_count 72 = .ok (.aload_n 0, 1) := by decide +kernel
theorem dX10_count_73 : decode cX10_count 73 = .ok (.getfield 28, 3) := by decide +kernel
theorem dX10_count_76 : decode cX10_count 76 = .ok (.getfield 212, 3) := by decide +kernel
theorem dX10_count_79 : decode cX10_count 79 = .ok (.ireturn, 1) := by decide +kernel
theorem dX10_count_80 : decode cX10_count 80 = .ok (.aload_n 0, 1) := by decide +kernel
theorem dX10_count_81 : decode cX10_count 81 = .ok (.getfield 56, 3) := by decide +kernel
theorem dX10_count_84 : decode cX10_count 84 = .ok (.getfield 110, 3) := by decide +kernel
theorem dX10_count_87 : decode cX10_count 87 = .ok (.ireturn, 1) := by decide +kernel
theorem dX10_count_88 : decode cX10_count 88 = .ok (.aload_n 0, 1) := by decide +kernel
theorem dX10_count_89 : decode cX10_count 89 = .ok (.getfield 49, 3) := by decide +kernel
theorem dX10_count_92 : decode cX10_count 92 = .ok (.getfield 215, 3) := by decide +kernel
theorem dX10_count_95 : decode cX10_count 95 = .ok (.invokestatic 276, 3) := by decide +kernel
theorem dX10_count_98 : decode cX10_count 98 = .ok (.ireturn, 1) := by decide +kernel
theorem dX10_count_99 : decode cX10_count 99 = .ok (.aload_n 0, 1) := by decide +kernel
theorem dX10_count_100 : decode cX10_count 100 = .ok (.getfield 49, 3) := by decide +kernel
theorem dX10_count_103 : decode cX10_count 103 = .ok (.invokevirtual 281, 3) := by decide +kernel
theorem dX10_count_106 : decode cX10_count 106 = .ok (.ireturn, 1) := by decide +kernel
theorem dX10_count_107 : decode cX10_count 107 = .ok (.aload_n 0, 1) := by decide +kernel
theorem dX10_count_108 : decode cX10_count 108 = .ok (.getfield 10, 3) := by decide +kernel
theorem dX10_count_111 : decode cX10_count 111 = .ok (.getfield 95, 3) := by decide +kernel
theorem dX10_count_114 : decode cX10_count 114 = .ok (.ireturn, 1) := by decide +kernel
theorem dX10_count_115 : decode cX10_count 115 = .ok (.iconst (-1), 1) := by decide +kernel
theorem dX10_count_116 : decode cX10_count 116 = .ok (.ireturn, 1) := by decide +kernel
theorem dX10_hasPlant_0 : decode cX10_hasPlant 0 = .ok (.aload_n 0, 1) := by decide +kernel
theorem dX10_hasPlant_1 : decode cX10_hasPlant 1 = .ok (.getfield 28, 3) := by decide +kernel
theorem dX10_hasPlant_4 : decode cX10_hasPlant 4 = .ok (.getfield 113, 3) := by decide +kernel
theorem dX10_hasPlant_7 : decode cX10_hasPlant 7 = .ok (.ifCond .le 7, 3) := by decide +kernel
theorem dX10_hasPlant_10 : decode cX10_hasPlant 10 = .ok (.iconst 1, 1) := by decide +kernel
theorem dX10_hasPlant_11 : decode cX10_hasPlant 11 = .ok (.goto 4, 3) := by decide +kernel
theorem dX10_hasPlant_14 : decode cX10_hasPlant 14 = .ok (.iconst 0, 1) := by decide +kernel
theorem dX10_hasPlant_15 : decode cX10_hasPlant 15 = .ok (.ireturn, 1) := by decide +kernel
theorem dX10_isPoint_0 : decode cX10_isPoint 0 = .ok (.iload_n 1, 1) := by decide +kernel
theorem dX10_isPoint_1 : decode cX10_isPoint 1 = .ok (.ifCond .lt 18, 3) := by decide +kernel
theorem dX10_isPoint_4 : decode cX10_isPoint 4 = .ok (.iload_n 1, 1) := by decide +kernel
theorem dX10_isPoint_5 : decode cX10_isPoint 5 = .ok (.aload_n 0, 1) := by decide +kernel
theorem dX10_isPoint_6 : decode cX10_isPoint 6 = .ok (.getfield 28, 3) := by decide +kernel
theorem dX10_isPoint_9 : decode cX10_isPoint 9 = .ok (.getfield 113, 3) := by decide +kernel
theorem dX10_isPoint_12 : decode cX10_isPoint 12 = .ok (.if_icmp .ge 7, 3) := by decide +kernel
theorem dX10_isPoint_15 : decode cX10_isPoint 15 = .ok (.iconst 1, 1) := by decide +kernel
theorem dX10_isPoint_16 : decode cX10_isPoint 16 = .ok (.goto 4, 3) := by decide +kernel
theorem dX10_isPoint_19 : decode cX10_isPoint 19 = .ok (.iconst 0, 1) := by decide +kernel
theorem dX10_isPoint_20 : decode cX10_isPoint 20 = .ok (.ireturn, 1) := by decide +kernel
theorem dX10_isWindow_0 : decode cX10_isWindow 0 = .ok (.iload_n 1, 1) := by decide +kernel
theorem dX10_isWindow_1 : decode cX10_isWindow 1 = .ok (.ifCond .lt 18, 3) := by decide +kernel
theorem dX10_isWindow_4 : decode cX10_isWindow 4 = .ok (.iload_n 1, 1) := by decide +kernel
theorem dX10_isWindow_5 : decode cX10_isWindow 5 = .ok (.aload_n 0, 1) := by decide +kernel
theorem dX10_isWindow_6 : decode cX10_isWindow 6 = .ok (.getfield 28, 3) := by decide +kernel
theorem dX10_isWindow_9 : decode cX10_isWindow 9 = .ok (.getfield 273, 3) := by decide +kernel
theorem dX10_isWindow_12 : decode cX10_isWindow 12 = .ok (.if_icmp .ge 7, 3) := by decide +kernel
theorem dX10_isWindow_15 : decode cX10_isWindow 15 = .ok (.iconst 1, 1) := by decide +kernel
theorem dX10_isWindow_16 : decode cX10_isWindow 16 = .ok (.goto 4, 3) := by decide +kernel
theorem dX10_isWindow_19 : decode cX10_isWindow 19 = .ok (.iconst 0, 1) := by decide +kernel
theorem dX10_isWindow_20 : decode cX10_isWindow 20 = .ok (.ireturn, 1) := by decide +kernel
theorem dX10_isHeap_0 : decode cX10_isHeap 0 = .ok (.aload_n 0, 1) := by decide +kernel
theorem dX10_isHeap_1 : decode cX10_isHeap 1 = .ok (.invokevirtual 181, 3) := by decide +kernel
theorem dX10_isHeap_4 : decode cX10_isHeap 4 = .ok (.ifCond .eq 24, 3) := by decide +kernel
theorem dX10_isHeap_7 : decode cX10_isHeap 7 = .ok (.iload_n 1, 1) := by decide +kernel
theorem dX10_isHeap_8 : decode cX10_isHeap 8 = .ok (.ifCond .lt 20, 3) := by decide +kernel
theorem dX10_isHeap_11 : decode cX10_isHeap 11 = .ok (.iload_n 1, 1) := by decide +kernel
theorem dX10_isHeap_12 : decode cX10_isHeap 12 = .ok (.iconst 1, 1) := by decide +kernel
theorem dX10_isHeap_13 : decode cX10_isHeap 13 = .ok (.aload_n 0, 1) := by decide +kernel
theorem dX10_isHeap_14 : decode cX10_isHeap 14 = .ok (.getfield 28, 3) := by decide +kernel
theorem dX10_isHeap_17 : decode cX10_isHeap 17 = .ok (.getfield 113, 3) := by decide +kernel
theorem dX10_isHeap_20 : decode cX10_isHeap 20 = .ok (.ishl, 1) := by decide +kernel
theorem dX10_isHeap_21 : decode cX10_isHeap 21 = .ok (.if_icmp .ge 7, 3) := by decide +kernel
theorem dX10_isHeap_24 : decode cX10_isHeap 24 = .ok (.iconst 1, 1) := by decide +kernel
theorem dX10_isHeap_25 : decode cX10_isHeap 25 = .ok (.goto 4, 3) := by decide +kernel
theorem dX10_isHeap_28 : decode cX10_isHeap 28 = .ok (.iconst 0, 1) := by decide +kernel
theorem dX10_isHeap_29 : decode cX10_isHeap 29 = .ok (.ireturn, 1) := by decide +kernel
theorem dX10_isSecond_0 : decode cX10_isSecond 0 = .ok (.iload_n 0, 1) := by decide +kernel
theorem dX10_isSecond_1 : decode cX10_isSecond 1 = .ok (.ifCond .lt 14, 3) := by decide +kernel
theorem dX10_isSecond_4 : decode cX10_isSecond 4 = .ok (.iload_n 0, 1) := by decide +kernel
theorem dX10_isSecond_5 : decode cX10_isSecond 5 = .ok (.sipush 999, 3) := by decide +kernel
theorem dX10_isSecond_8 : decode cX10_isSecond 8 = .ok (.if_icmp .gt 7, 3) := by decide +kernel
theorem dX10_isSecond_11 : decode cX10_isSecond 11 = .ok (.iconst 1, 1) := by decide +kernel
theorem dX10_isSecond_12 : decode cX10_isSecond 12 = .ok (.goto 4, 3) := by decide +kernel
theorem dX10_isSecond_15 : decode cX10_isSecond 15 = .ok (.iconst 0, 1) := by decide +kernel
theorem dX10_isSecond_16 : decode cX10_isSecond 16 = .ok (.ireturn, 1) := by decide +kernel
theorem dX10_isPace_0 : decode cX10_isPace 0 = .ok (.iload_n 0, 1) := by decide +kernel
theorem dX10_isPace_1 : decode cX10_isPace 1 = .ok (.iconst 1, 1) := by decide +kernel
theorem dX10_isPace_2 : decode cX10_isPace 2 = .ok (.if_icmp .lt 13, 3) := by decide +kernel
theorem dX10_isPace_5 : decode cX10_isPace 5 = .ok (.iload_n 0, 1) := by decide +kernel
theorem dX10_isPace_6 : decode cX10_isPace 6 = .ok (.bipush 30, 2) := by decide +kernel
theorem dX10_isPace_8 : decode cX10_isPace 8 = .ok (.if_icmp .gt 7, 3) := by decide +kernel
theorem dX10_isPace_11 : decode cX10_isPace 11 = .ok (.iconst 1, 1) := by decide +kernel
theorem dX10_isPace_12 : decode cX10_isPace 12 = .ok (.goto 4, 3) := by decide +kernel
theorem dX10_isPace_15 : decode cX10_isPace 15 = .ok (.iconst 0, 1) := by decide +kernel
theorem dX10_isPace_16 : decode cX10_isPace 16 = .ok (.ireturn, 1) := by decide +kernel
theorem dX10_hasBit_0 : decode cX10_hasBit 0 = .ok (.iload_n 0, 1) := by decide +kernel
theorem dX10_hasBit_1 : decode cX10_hasBit 1 = .ok (.iload_n 1, 1) := by decide +kernel
theorem dX10_hasBit_2 : decode cX10_hasBit 2 = .ok (.ishr, 1) := by decide +kernel
theorem dX10_hasBit_3 : decode cX10_hasBit 3 = .ok (.iconst 1, 1) := by decide +kernel
theorem dX10_hasBit_4 : decode cX10_hasBit 4 = .ok (.iand, 1) := by decide +kernel
theorem dX10_hasBit_5 : decode cX10_hasBit 5 = .ok (.ifCond .eq 7, 3) := by decide +kernel
theorem dX10_hasBit_8 : decode cX10_hasBit 8 = .ok (.iconst 1, 1) := by decide +kernel
theorem dX10_hasBit_9 : decode cX10_hasBit 9 = .ok (.goto 4, 3) := by decide +kernel
theorem dX10_hasBit_12 : decode cX10_hasBit 12 = .ok (.iconst 0, 1) := by decide +kernel
theorem dX10_hasBit_13 : decode cX10_hasBit 13 = .ok (.ireturn, 1) := by decide +kernel
theorem dX10_orNone_0 : decode cX10_orNone 0 = .ok (.iload_n 0, 1) := by decide +kernel
theorem dX10_orNone_1 : decode cX10_orNone 1 = .ok (.ldc_w 284, 3) := by decide +kernel
theorem dX10_orNone_4 : decode cX10_orNone 4 = .ok (.if_icmp .lt 7, 3) := by decide +kernel
theorem dX10_orNone_7 : decode cX10_orNone 7 = .ok (.iconst (-1), 1) := by decide +kernel
theorem dX10_orNone_8 : decode cX10_orNone 8 = .ok (.goto 4, 3) := by decide +kernel
theorem dX10_orNone_11 : decode cX10_orNone 11 = .ok (.iload_n 0, 1) := by decide +kernel
theorem dX10_orNone_12 : decode cX10_orNone 12 = .ok (.ireturn, 1) := by decide +kernel
theorem dX11_init_0 : decode cX11_init 0 = .ok (.aload_n 0, 1) := by decide +kernel
theorem dX11_init_1 : decode cX11_init 1 = .ok (.invokespecial 1, 3) := by decide +kernel
theorem dX11_init_4 : decode cX11_init 4 = .ok (.aload_n 0, 1) := by decide +kernel
theorem dX11_init_5 : decode cX11_init 5 = .ok (.sipush 600, 3) := by decide +kernel
theorem dX11_init_8 : decode cX11_init 8 = .ok (.newarray .byte, 2) := by decide +kernel
theorem dX11_init_10 : decode cX11_init 10 = .ok (.putfield 9, 3) := by decide +kernel
theorem dX11_init_13 : decode cX11_init 13 = .ok (.aload_n 0, 1) := by decide +kernel
theorem dX11_init_14 : decode cX11_init 14 = .ok (.bipush 12, 2) := by decide +kernel
theorem dX11_init_16 : decode cX11_init 16 = .ok (.newarray .long, 2) := by decide +kernel
theorem dX11_init_18 : decode cX11_init 18 = .ok (.putfield 13, 3) := by decide +kernel
theorem dX11_init_21 : decode cX11_init 21 = .ok (.aload_n 0, 1) := by decide +kernel
theorem dX11_init_22 : decode cX11_init 22 = .ok (.bipush 12, 2) := by decide +kernel
theorem dX11_init_24 : decode cX11_init 24 = .ok (.newarray .boolean, 2) := by decide +kernel
theorem dX11_init_26 : decode cX11_init 26 = .ok (.putfield 17, 3) := by decide +kernel
theorem dX11_init_29 : decode cX11_init 29 = .ok (.aload_n 0, 1) := by decide +kernel
theorem dX11_init_30 : decode cX11_init 30 = .ok (.bipush 24, 2) := by decide +kernel
theorem dX11_init_32 : decode cX11_init 32 = .ok (.newarray .int, 2) := by decide +kernel
theorem dX11_init_34 : decode cX11_init 34 = .ok (.putfield 21, 3) := by decide +kernel
theorem dX11_init_37 : decode cX11_init 37 = .ok (.aload_n 0, 1) := by decide +kernel
theorem dX11_init_38 : decode cX11_init 38 = .ok (.bipush 24, 2) := by decide +kernel
theorem dX11_init_40 : decode cX11_init 40 = .ok (.newarray .int, 2) := by decide +kernel
theorem dX11_init_42 : decode cX11_init 42 = .ok (.putfield 25, 3) := by decide +kernel
theorem dX11_init_45 : decode cX11_init 45 = .ok (.aload_n 0, 1) := by decide +kernel
theorem dX11_init_46 : decode cX11_init 46 = .ok (.bipush 24, 2) := by decide +kernel
theorem dX11_init_48 : decode cX11_init 48 = .ok (.newarray .int, 2) := by decide +kernel
