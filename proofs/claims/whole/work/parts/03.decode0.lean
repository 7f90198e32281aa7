theorem dX0_init_0 : decode cX0_init 0 = .ok (.aload_n 0, 1) := by decide +kernel
theorem dX0_init_1 : decode cX0_init 1 = .ok (.invokespecial 3, 3) := by decide +kernel
theorem dX0_init_4 : decode cX0_init 4 = .ok (.aload_n 0, 1) := by decide +kernel
theorem dX0_init_5 : decode cX0_init 5 = .ok (.bipush 6, 2) := by decide +kernel
theorem dX0_init_7 : decode cX0_init 7 = .ok (.bipush 8, 2) := by decide +kernel
theorem dX0_init_9 : decode cX0_init 9 = .ok (.multianewarray 9 2, 4) := by decide +kernel
theorem dX0_init_13 : decode cX0_init 13 = .ok (.putfield 11, 3) := by decide +kernel
theorem dX0_init_16 : decode cX0_init 16 = .ok (.aload_n 0, 1) := by decide +kernel
theorem dX0_init_17 : decode cX0_init 17 = .ok (.bipush 6, 2) := by decide +kernel
theorem dX0_init_19 : decode cX0_init 19 = .ok (.newarray .int, 2) := by decide +kernel
theorem dX0_init_21 : decode cX0_init 21 = .ok (.putfield 16, 3) := by decide +kernel
theorem dX0_init_24 : decode cX0_init 24 = .ok (.aload_n 0, 1) := by decide +kernel
theorem dX0_init_25 : decode cX0_init 25 = .ok (.bipush 84, 2) := by decide +kernel
theorem dX0_init_27 : decode cX0_init 27 = .ok (.newarray .int, 2) := by decide +kernel
theorem dX0_init_29 : decode cX0_init 29 = .ok (.putfield 20, 3) := by decide +kernel
theorem dX0_init_32 : decode cX0_init 32 = .ok (.return_, 1) := by decide +kernel
theorem dX0_empty_0 : decode cX0_empty 0 = .ok (.iconst 0, 1) := by decide +kernel
theorem dX0_empty_1 : decode cX0_empty 1 = .ok (.istore_n 1, 1) := by decide +kernel
theorem dX0_empty_2 : decode cX0_empty 2 = .ok (.iload_n 1, 1) := by decide +kernel
theorem dX0_empty_3 : decode cX0_empty 3 = .ok (.bipush 6, 2) := by decide +kernel
theorem dX0_empty_5 : decode cX0_empty 5 = .ok (.if_icmp .ge 16, 3) := by decide +kernel
theorem dX0_empty_8 : decode cX0_empty 8 = .ok (.aload_n 0, 1) := by decide +kernel
theorem dX0_empty_9 : decode cX0_empty 9 = .ok (.getfield 16, 3) := by decide +kernel
theorem dX0_empty_12 : decode cX0_empty 12 = .ok (.iload_n 1, 1) := by decide +kernel
theorem dX0_empty_13 : decode cX0_empty 13 = .ok (.iconst 0, 1) := by decide +kernel
theorem dX0_empty_14 : decode cX0_empty 14 = .ok (.iastore, 1) := by decide +kernel
theorem dX0_empty_15 : decode cX0_empty 15 = .ok (.iinc 1 1, 3) := by decide +kernel
theorem dX0_empty_18 : decode cX0_empty 18 = .ok (.goto (-16), 3) := by decide +kernel
theorem dX0_empty_21 : decode cX0_empty 21 = .ok (.aload_n 0, 1) := by decide +kernel
theorem dX0_empty_22 : decode cX0_empty 22 = .ok (.iconst 0, 1) := by decide +kernel
theorem dX0_empty_23 : decode cX0_empty 23 = .ok (.putfield 23, 3) := by decide +kernel
theorem dX0_empty_26 : decode cX0_empty 26 = .ok (.return_, 1) := by decide +kernel
theorem dX0_copy_0 : decode cX0_copy 0 = .ok (.iconst 0, 1) := by decide +kernel
theorem dX0_copy_1 : decode cX0_copy 1 = .ok (.istore_n 2, 1) := by decide +kernel
theorem dX0_copy_2 : decode cX0_copy 2 = .ok (.iload_n 2, 1) := by decide +kernel
theorem dX0_copy_3 : decode cX0_copy 3 = .ok (.bipush 6, 2) := by decide +kernel
theorem dX0_copy_5 : decode cX0_copy 5 = .ok (.if_icmp .ge 28, 3) := by decide +kernel
theorem dX0_copy_8 : decode cX0_copy 8 = .ok (.aload_n 1, 1) := by decide +kernel
theorem dX0_copy_9 : decode cX0_copy 9 = .ok (.getfield 11, 3) := by decide +kernel
theorem dX0_copy_12 : decode cX0_copy 12 = .ok (.iload_n 2, 1) := by decide +kernel
theorem dX0_copy_13 : decode cX0_copy 13 = .ok (.aaload, 1) := by decide +kernel
theorem dX0_copy_14 : decode cX0_copy 14 = .ok (.iconst 0, 1) := by decide +kernel
theorem dX0_copy_15 : decode cX0_copy 15 = .ok (.aload_n 0, 1) := by decide +kernel
theorem dX0_copy_16 : decode cX0_copy 16 = .ok (.getfield 11, 3) := by decide +kernel
theorem dX0_copy_19 : decode cX0_copy 19 = .ok (.iload_n 2, 1) := by decide +kernel
theorem dX0_copy_20 : decode cX0_copy 20 = .ok (.aaload, 1) := by decide +kernel
theorem dX0_copy_21 : decode cX0_copy 21 = .ok (.iconst 0, 1) := by decide +kernel
theorem dX0_copy_22 : decode cX0_copy 22 = .ok (.bipush 8, 2) := by decide +kernel
theorem dX0_copy_24 : decode cX0_copy 24 = .ok (.invokestatic 27, 3) := by decide +kernel
theorem dX0_copy_27 : decode cX0_copy 27 = .ok (.iinc 2 1, 3) := by decide +kernel
theorem dX0_copy_30 : decode cX0_copy 30 = .ok (.goto (-28), 3) := by decide +kernel
theorem dX0_copy_33 : decode cX0_copy 33 = .ok (.aload_n 1, 1) := by decide +kernel
theorem dX0_copy_34 : decode cX0_copy 34 = .ok (.getfield 16, 3) := by decide +kernel
theorem dX0_copy_37 : decode cX0_copy 37 = .ok (.iconst 0, 1) := by decide +kernel
theorem dX0_copy_38 : decode cX0_copy 38 = .ok (.aload_n 0, 1) := by decide +kernel
theorem dX0_copy_39 : decode cX0_copy 39 = .ok (.getfield 16, 3) := by decide +kernel
theorem dX0_copy_42 : decode cX0_copy 42 = .ok (.iconst 0, 1) := by decide +kernel
theorem dX0_copy_43 : decode cX0_copy 43 = .ok (.bipush 6, 2) := by decide +kernel
theorem dX0_copy_45 : decode cX0_copy 45 = .ok (.invokestatic 27, 3) := by decide +kernel
theorem dX0_copy_48 : decode cX0_copy 48 = .ok (.aload_n 1, 1) := by decide +kernel
theorem dX0_copy_49 : decode cX0_copy 49 = .ok (.getfield 20, 3) := by decide +kernel
theorem dX0_copy_52 : decode cX0_copy 52 = .ok (.iconst 0, 1) := by decide +kernel
theorem dX0_copy_53 : decode cX0_copy 53 = .ok (.aload_n 0, 1) := by decide +kernel
theorem dX0_copy_54 : decode cX0_copy 54 = .ok (.getfield 20, 3) := by decide +kernel
theorem dX0_copy_57 : decode cX0_copy 57 = .ok (.iconst 0, 1) := by decide +kernel
theorem dX0_copy_58 : decode cX0_copy 58 = .ok (.bipush 84, 2) := by decide +kernel
theorem dX0_copy_60 : decode cX0_copy 60 = .ok (.invokestatic 27, 3) := by decide +kernel
theorem dX0_copy_63 : decode cX0_copy 63 = .ok (.aload_n 0, 1) := by decide +kernel
theorem dX0_copy_64 : decode cX0_copy 64 = .ok (.aload_n 1, 1) := by decide +kernel
theorem dX0_copy_65 : decode cX0_copy 65 = .ok (.getfield 23, 3) := by decide +kernel
theorem dX0_copy_68 : decode cX0_copy 68 = .ok (.putfield 23, 3) := by decide +kernel
theorem dX0_copy_71 : decode cX0_copy 71 = .ok (.aload_n 0, 1) := by decide +kernel
theorem dX0_copy_72 : decode cX0_copy 72 = .ok (.aload_n 1, 1) := by decide +kernel
theorem dX0_copy_73 : decode cX0_copy 73 = .ok (.getfield 33, 3) := by decide +kernel
theorem dX0_copy_76 : decode cX0_copy 76 = .ok (.putfield 33, 3) := by decide +kernel
theorem dX0_copy_79 : decode cX0_copy 79 = .ok (.aload_n 0, 1) := by decide +kernel
theorem dX0_copy_80 : decode cX0_copy 80 = .ok (.aload_n 1, 1) := by decide +kernel
theorem dX0_copy_81 : decode cX0_copy 81 = .ok (.getfield 36, 3) := by decide +kernel
theorem dX0_copy_84 : decode cX0_copy 84 = .ok (.putfield 36, 3) := by decide +kernel
theorem dX0_copy_87 : decode cX0_copy 87 = .ok (.return_, 1) := by decide +kernel
theorem dX0_wordsInAll_0 : decode cX0_wordsInAll 0 = .ok (.iconst 0, 1) := by decide +kernel
theorem dX0_wordsInAll_1 : decode cX0_wordsInAll 1 = .ok (.istore_n 1, 1) := by decide +kernel
theorem dX0_wordsInAll_2 : decode cX0_wordsInAll 2 = .ok (.iconst 0, 1) := by decide +kernel
theorem dX0_wordsInAll_3 : decode cX0_wordsInAll 3 = .ok (.istore_n 2, 1) := by decide +kernel
theorem dX0_wordsInAll_4 : decode cX0_wordsInAll 4 = .ok (.iload_n 2, 1) := by decide +kernel
theorem dX0_wordsInAll_5 : decode cX0_wordsInAll 5 = .ok (.bipush 6, 2) := by decide +kernel
theorem dX0_wordsInAll_7 : decode cX0_wordsInAll 7 = .ok (.if_icmp .ge 18, 3) := by decide +kernel
theorem dX0_wordsInAll_10 : decode cX0_wordsInAll 10 = .ok (.iload_n 1, 1) := by decide +kernel
theorem dX0_wordsInAll_11 : decode cX0_wordsInAll 11 = .ok (.aload_n 0, 1) := by decide +kernel
theorem dX0_wordsInAll_12 : decode cX0_wordsInAll 12 = .ok (.getfield 16, 3) := by decide +kernel
theorem dX0_wordsInAll_15 : decode cX0_wordsInAll 15 = .ok (.iload_n 2, 1) := by decide +kernel
theorem dX0_wordsInAll_16 : decode cX0_wordsInAll 16 = .ok (.iaload, 1) := by decide +kernel
theorem dX0_wordsInAll_17 : decode cX0_wordsInAll 17 = .ok (.iadd, 1) := by decide +kernel
theorem dX0_wordsInAll_18 : decode cX0_wordsInAll 18 = .ok (.istore_n 1, 1) := by decide +kernel
theorem dX0_wordsInAll_19 : decode cX0_wordsInAll 19 = .ok (.iinc 2 1, 3) := by decide +kernel
theorem dX0_wordsInAll_22 : decode cX0_wordsInAll 22 = .ok (.goto (-18), 3) := by decide +kernel
theorem dX0_wordsInAll_25 : decode cX0_wordsInAll 25 = .ok (.iload_n 1, 1) := by decide +kernel
theorem dX0_wordsInAll_26 : decode cX0_wordsInAll 26 = .ok (.ireturn, 1) := by decide +kernel
theorem dX0_has_0 : decode cX0_has 0 = .ok (.iload_n 2, 1) := by decide +kernel
theorem dX0_has_1 : decode cX0_has 1 = .ok (.aload_n 0, 1) := by decide +kernel
theorem dX0_has_2 : decode cX0_has 2 = .ok (.getfield 16, 3) := by decide +kernel
theorem dX0_has_5 : decode cX0_has 5 = .ok (.iload_n 1, 1) := by decide +kernel
theorem dX0_has_6 : decode cX0_has 6 = .ok (.iaload, 1) := by decide +kernel
theorem dX0_has_7 : decode cX0_has 7 = .ok (.if_icmp .ge 19, 3) := by decide +kernel
theorem dX0_has_10 : decode cX0_has 10 = .ok (.aload_n 0, 1) := by decide +kernel
theorem dX0_has_11 : decode cX0_has 11 = .ok (.getfield 11, 3) := by decide +kernel
theorem dX0_has_14 : decode cX0_has 14 = .ok (.iload_n 1, 1) := by decide +kernel
theorem dX0_has_15 : decode cX0_has 15 = .ok (.aaload, 1) := by decide +kernel
theorem dX0_has_16 : decode cX0_has 16 = .ok (.iload_n 2, 1) := by decide +kernel
theorem dX0_has_17 : decode cX0_has 17 = .ok (.iaload, 1) := by decide +kernel
theorem dX0_has_18 : decode cX0_has 18 = .ok (.iload_n 3, 1) := by decide +kernel
theorem dX0_has_19 : decode cX0_has 19 = .ok (.if_icmp .ne 7, 3) := by decide +kernel
theorem dX0_has_22 : decode cX0_has 22 = .ok (.iconst 1, 1) := by decide +kernel
theorem dX0_has_23 : decode cX0_has 23 = .ok (.goto 4, 3) := by decide +kernel
theorem dX0_has_26 : decode cX0_has 26 = .ok (.iconst 0, 1) := by decide +kernel
theorem dX0_has_27 : decode cX0_has 27 = .ok (.ireturn, 1) := by decide +kernel
theorem dX1_init_0 : decode cX1_init 0 = .ok (.aload_n 0, 1) := by decide +kernel
theorem dX1_init_1 : decode cX1_init 1 = .ok (.invokespecial 3, 3) := by decide +kernel
theorem dX1_init_4 : decode cX1_init 4 = .ok (.aload_n 0, 1) := by decide +kernel
theorem dX1_init_5 : decode cX1_init 5 = .ok (.bipush 84, 2) := by decide +kernel
theorem dX1_init_7 : decode cX1_init 7 = .ok (.newarray .int, 2) := by decide +kernel
theorem dX1_init_9 : decode cX1_init 9 = .ok (.putfield 9, 3) := by decide +kernel
theorem dX1_init_12 : decode cX1_init 12 = .ok (.aload_n 0, 1) := by decide +kernel
theorem dX1_init_13 : decode cX1_init 13 = .ok (.bipush 84, 2) := by decide +kernel
theorem dX1_init_15 : decode cX1_init 15 = .ok (.newarray .boolean, 2) := by decide +kernel
theorem dX1_init_17 : decode cX1_init 17 = .ok (.putfield 15, 3) := by decide +kernel
theorem dX1_init_20 : decode cX1_init 20 = .ok (.return_, 1) := by decide +kernel
theorem dX1_follow_0 : decode cX1_follow 0 = .ok (.aload_n 0, 1) := by decide +kernel
theorem dX1_follow_1 : decode cX1_follow 1 = .ok (.iconst 0, 1) := by decide +kernel
theorem dX1_follow_2 : decode cX1_follow 2 = .ok (.putfield 19, 3) := by decide +kernel
theorem dX1_follow_5 : decode cX1_follow 5 = .ok (.iload_n 2, 1) := by decide +kernel
theorem dX1_follow_6 : decode cX1_follow 6 = .ok (.iconst 1, 1) := by decide +kernel
theorem dX1_follow_7 : decode cX1_follow 7 = .ok (.if_icmp .eq 7, 3) := by decide +kernel
theorem dX1_follow_10 : decode cX1_follow 10 = .ok (.iload_n 1, 1) := by decide +kernel
theorem dX1_follow_11 : decode cX1_follow 11 = .ok (.ifCond .ne 15, 3) := by decide +kernel
theorem dX1_follow_14 : decode cX1_follow 14 = .ok (.aload_n 0, 1) := by decide +kernel
theorem dX1_follow_15 : decode cX1_follow 15 = .ok (.iconst 0, 1) := by decide +kernel
theorem dX1_follow_16 : decode cX1_follow 16 = .ok (.getstatic 23, 3) := by decide +kernel
theorem dX1_follow_19 : decode cX1_follow 19 = .ok (.iload_n 2, 1) := by decide +kernel
theorem dX1_follow_20 : decode cX1_follow 20 = .ok (.invokevirtual 26, 3) := by decide +kernel
theorem dX1_follow_23 : decode cX1_follow 23 = .ok (.goto 89, 3) := by decide +kernel
theorem dX1_follow_26 : decode cX1_follow 26 = .ok (.iload_n 1, 1) := by decide +kernel
theorem dX1_follow_27 : decode cX1_follow 27 = .ok (.iconst 1, 1) := by decide +kernel
theorem dX1_follow_28 : decode cX1_follow 28 = .ok (.if_icmp .ne 15, 3) := by decide +kernel
theorem dX1_follow_31 : decode cX1_follow 31 = .ok (.aload_n 0, 1) := by decide +kernel
theorem dX1_follow_32 : decode cX1_follow 32 = .ok (.iload_n 2, 1) := by decide +kernel
theorem dX1_follow_33 : decode cX1_follow 33 = .ok (.getstatic 23, 3) := by decide +kernel
theorem dX1_follow_36 : decode cX1_follow 36 = .ok (.iconst 1, 1) := by decide +kernel
theorem dX1_follow_37 : decode cX1_follow 37 = .ok (.invokevirtual 30, 3) := by decide +kernel
theorem dX1_follow_40 : decode cX1_follow 40 = .ok (.goto 72, 3) := by decide +kernel
theorem dX1_follow_43 : decode cX1_follow 43 = .ok (.iload_n 1, 1) := by decide +kernel
theorem dX1_follow_44 : decode cX1_follow 44 = .ok (.iconst 2, 1) := by decide +kernel
theorem dX1_follow_45 : decode cX1_follow 45 = .ok (.if_icmp .ne 17, 3) := by decide +kernel
theorem dX1_follow_48 : decode cX1_follow 48 = .ok (.aload_n 0, 1) := by decide +kernel
theorem dX1_follow_49 : decode cX1_follow 49 = .ok (.iload_n 2, 1) := by decide +kernel
theorem dX1_follow_50 : decode cX1_follow 50 = .ok (.iconst 1, 1) := by decide +kernel
theorem dX1_follow_51 : decode cX1_follow 51 = .ok (.isub, 1) := by decide +kernel
theorem dX1_follow_52 : decode cX1_follow 52 = .ok (.getstatic 23, 3) := by decide +kernel
theorem dX1_follow_55 : decode cX1_follow 55 = .ok (.iconst 2, 1) := by decide +kernel
theorem dX1_follow_56 : decode cX1_follow 56 = .ok (.invokevirtual 30, 3) := by decide +kernel
theorem dX1_follow_59 : decode cX1_follow 59 = .ok (.goto 53, 3) := by decide +kernel
theorem dX1_follow_62 : decode cX1_follow 62 = .ok (.iload_n 1, 1) := by decide +kernel
theorem dX1_follow_63 : decode cX1_follow 63 = .ok (.iconst 3, 1) := by decide +kernel
theorem dX1_follow_64 : decode cX1_follow 64 = .ok (.if_icmp .ne 20, 3) := by decide +kernel
theorem dX1_follow_67 : decode cX1_follow 67 = .ok (.aload_n 0, 1) := by decide +kernel
theorem dX1_follow_68 : decode cX1_follow 68 = .ok (.iload_n 2, 1) := by decide +kernel
theorem dX1_follow_69 : decode cX1_follow 69 = .ok (.iconst 1, 1) := by decide +kernel
theorem dX1_follow_70 : decode cX1_follow 70 = .ok (.isub, 1) := by decide +kernel
theorem dX1_follow_71 : decode cX1_follow 71 = .ok (.getstatic 33, 3) := by decide +kernel
theorem dX1_follow_74 : decode cX1_follow 74 = .ok (.getstatic 33, 3) := by decide +kernel
theorem dX1_follow_77 : decode cX1_follow 77 = .ok (.arraylength, 1) := by decide +kernel
theorem dX1_follow_78 : decode cX1_follow 78 = .ok (.invokevirtual 30, 3) := by decide +kernel
theorem dX1_follow_81 : decode cX1_follow 81 = .ok (.goto 31, 3) := by decide +kernel
theorem dX1_follow_84 : decode cX1_follow 84 = .ok (.aload_n 0, 1) := by decide +kernel
theorem dX1_follow_85 : decode cX1_follow 85 = .ok (.iload_n 2, 1) := by decide +kernel
theorem dX1_follow_86 : decode cX1_follow 86 = .ok (.iconst 2, 1) := by decide +kernel
theorem dX1_follow_87 : decode cX1_follow 87 = .ok (.isub, 1) := by decide +kernel
theorem dX1_follow_88 : decode cX1_follow 88 = .ok (.getstatic 36, 3) := by decide +kernel
theorem dX1_follow_91 : decode cX1_follow 91 = .ok (.getstatic 36, 3) := by decide +kernel
theorem dX1_follow_94 : decode cX1_follow 94 = .ok (.arraylength, 1) := by decide +kernel
theorem dX1_follow_95 : decode cX1_follow 95 = .ok (.invokevirtual 30, 3) := by decide +kernel
theorem dX1_follow_98 : decode cX1_follow 98 = .ok (.aload_n 0, 1) := by decide +kernel
theorem dX1_follow_99 : decode cX1_follow 99 = .ok (.iload_n 2, 1) := by decide +kernel
theorem dX1_follow_100 : decode cX1_follow 100 = .ok (.iconst 2, 1) := by decide +kernel
theorem dX1_follow_101 : decode cX1_follow 101 = .ok (.isub, 1) := by decide +kernel
theorem dX1_follow_102 : decode cX1_follow 102 = .ok (.getstatic 33, 3) := by decide +kernel
theorem dX1_follow_105 : decode cX1_follow 105 = .ok (.getstatic 33, 3) := by decide +kernel
theorem dX1_follow_108 : decode cX1_follow 108 = .ok (.arraylength, 1) := by decide +kernel
theorem dX1_follow_109 : decode cX1_follow 109 = .ok (.invokevirtual 26, 3) := by decide +kernel
theorem dX1_follow_112 : decode cX1_follow 112 = .ok (.return_, 1) := by decide +kernel
theorem dX1_groups_0 : decode cX1_groups 0 = .ok (.iconst 0, 1) := by decide +kernel
theorem dX1_groups_1 : decode cX1_groups 1 = .ok (.istore 4, 2) := by decide +kernel
theorem dX1_groups_3 : decode cX1_groups 3 = .ok (.iload 4, 2) := by decide +kernel
theorem dX1_groups_5 : decode cX1_groups 5 = .ok (.iload_n 1, 1) := by decide +kernel
theorem dX1_groups_6 : decode cX1_groups 6 = .ok (.if_icmp .ge 17, 3) := by decide +kernel
theorem dX1_groups_9 : decode cX1_groups 9 = .ok (.aload_n 0, 1) := by decide +kernel
theorem dX1_groups_10 : decode cX1_groups 10 = .ok (.iload 4, 2) := by decide +kernel
theorem dX1_groups_12 : decode cX1_groups 12 = .ok (.aload_n 2, 1) := by decide +kernel
theorem dX1_groups_13 : decode cX1_groups 13 = .ok (.iload_n 3, 1) := by decide +kernel
theorem dX1_groups_14 : decode cX1_groups 14 = .ok (.invokevirtual 26, 3) := by decide +kernel
theorem dX1_groups_17 : decode cX1_groups 17 = .ok (.iinc 4 1, 3) := by decide +kernel
theorem dX1_groups_20 : decode cX1_groups 20 = .ok (.goto (-17), 3) := by decide +kernel
theorem dX1_groups_23 : decode cX1_groups 23 = .ok (.return_, 1) := by decide +kernel
theorem dX1_group_0 : decode cX1_group 0 = .ok (.iconst 0, 1) := by decide +kernel
theorem dX1_group_1 : decode cX1_group 1 = .ok (.istore 4, 2) := by decide +kernel
theorem dX1_group_3 : decode cX1_group 3 = .ok (.iload 4, 2) := by decide +kernel
theorem dX1_group_5 : decode cX1_group 5 = .ok (.iload_n 3, 1) := by decide +kernel
theorem dX1_group_6 : decode cX1_group 6 = .ok (.if_icmp .ge 62, 3) := by decide +kernel
theorem dX1_group_9 : decode cX1_group 9 = .ok (.aload_n 0, 1) := by decide +kernel
theorem dX1_group_10 : decode cX1_group 10 = .ok (.getfield 19, 3) := by decide +kernel
theorem dX1_group_13 : decode cX1_group 13 = .ok (.bipush 84, 2) := by decide +kernel
theorem dX1_group_15 : decode cX1_group 15 = .ok (.if_icmp .ge 53, 3) := by decide +kernel
theorem dX1_group_18 : decode cX1_group 18 = .ok (.aload_n 0, 1) := by decide +kernel
theorem dX1_group_19 : decode cX1_group 19 = .ok (.getfield 9, 3) := by decide +kernel
theorem dX1_group_22 : decode cX1_group 22 = .ok (.aload_n 0, 1) := by decide +kernel
theorem dX1_group_23 : decode cX1_group 23 = .ok (.getfield 19, 3) := by decide +kernel
theorem dX1_group_26 : decode cX1_group 26 = .ok (.iload_n 1, 1) := by decide +kernel
theorem dX1_group_27 : decode cX1_group 27 = .ok (.aload_n 2, 1) := by decide +kernel
theorem dX1_group_28 : decode cX1_group 28 = .ok (.iload 4, 2) := by decide +kernel
theorem dX1_group_30 : decode cX1_group 30 = .ok (.iaload, 1) := by decide +kernel
theorem dX1_group_31 : decode cX1_group 31 = .ok (.iadd, 1) := by decide +kernel
theorem dX1_group_32 : decode cX1_group 32 = .ok (.iastore, 1) := by decide +kernel
theorem dX1_group_33 : decode cX1_group 33 = .ok (.aload_n 0, 1) := by decide +kernel
theorem dX1_group_34 : decode cX1_group 34 = .ok (.getfield 15, 3) := by decide +kernel
theorem dX1_group_37 : decode cX1_group 37 = .ok (.aload_n 0, 1) := by decide +kernel
theorem dX1_group_38 : decode cX1_group 38 = .ok (.getfield 19, 3) := by decide +kernel
theorem dX1_group_41 : decode cX1_group 41 = .ok (.iload 4, 2) := by decide +kernel
theorem dX1_group_43 : decode cX1_group 43 = .ok (.ifCond .ne 7, 3) := by decide +kernel
theorem dX1_group_46 : decode cX1_group 46 = .ok (.iconst 1, 1) := by decide +kernel
theorem dX1_group_47 : decode cX1_group 47 = .ok (.goto 4, 3) := by decide +kernel
theorem dX1_group_50 : decode cX1_group 50 = .ok (.iconst 0, 1) := by decide +kernel
theorem dX1_group_51 : decode cX1_group 51 = .ok (.bastore, 1) := by decide +kernel
theorem dX1_group_52 : decode cX1_group 52 = .ok (.aload_n 0, 1) := by decide +kernel
theorem dX1_group_53 : decode cX1_group 53 = .ok (.dup, 1) := by decide +kernel
theorem dX1_group_54 : decode cX1_group 54 = .ok (.getfield 19, 3) := by decide +kernel
theorem dX1_group_57 : decode cX1_group 57 = .ok (.iconst 1, 1) := by decide +kernel
theorem dX1_group_58 : decode cX1_group 58 = .ok (.iadd, 1) := by decide +kernel
theorem dX1_group_59 : decode cX1_group 59 = .ok (.putfield 19, 3) := by decide +kernel
theorem dX1_group_62 : decode cX1_group 62 = .ok (.iinc 4 1, 3) := by decide +kernel
theorem dX1_group_65 : decode cX1_group 65 = .ok (.goto (-62), 3) := by decide +kernel
theorem dX1_group_68 : decode cX1_group 68 = .ok (.return_, 1) := by decide +kernel
theorem dX1_before_0 : decode cX1_before 0 = .ok (.iload_n 1, 1) := by decide +kernel
theorem dX1_before_1 : decode cX1_before 1 = .ok (.ifCond .eq 12, 3) := by decide +kernel
theorem dX1_before_4 : decode cX1_before 4 = .ok (.aload_n 0, 1) := by decide +kernel
theorem dX1_before_5 : decode cX1_before 5 = .ok (.getfield 15, 3) := by decide +kernel
theorem dX1_before_8 : decode cX1_before 8 = .ok (.iload_n 1, 1) := by decide +kernel
theorem dX1_before_9 : decode cX1_before 9 = .ok (.baload, 1) := by decide +kernel
theorem dX1_before_10 : decode cX1_before 10 = .ok (.ifCond .eq 7, 3) := by decide +kernel
theorem dX1_before_13 : decode cX1_before 13 = .ok (.iconst (-1), 1) := by decide +kernel
theorem dX1_before_14 : decode cX1_before 14 = .ok (.goto 11, 3) := by decide +kernel
theorem dX1_before_17 : decode cX1_before 17 = .ok (.aload_n 0, 1) := by decide +kernel
theorem dX1_before_18 : decode cX1_before 18 = .ok (.getfield 9, 3) := by decide +kernel
theorem dX1_before_21 : decode cX1_before 21 = .ok (.iload_n 1, 1) := by decide +kernel
theorem dX1_before_22 : decode cX1_before 22 = .ok (.iconst 1, 1) := by decide +kernel
theorem dX1_before_23 : decode cX1_before 23 = .ok (.isub, 1) := by decide +kernel
theorem dX1_before_24 : decode cX1_before 24 = .ok (.iaload, 1) := by decide +kernel
theorem dX1_before_25 : decode cX1_before 25 = .ok (.ireturn, 1) := by decide +kernel
theorem dX1_behind_0 : decode cX1_behind 0 = .ok (.iload_n 1, 1) := by decide +kernel
theorem dX1_behind_1 : decode cX1_behind 1 = .ok (.iconst 1, 1) := by decide +kernel
theorem dX1_behind_2 : decode cX1_behind 2 = .ok (.iadd, 1) := by decide +kernel
theorem dX1_behind_3 : decode cX1_behind 3 = .ok (.aload_n 0, 1) := by decide +kernel
theorem dX1_behind_4 : decode cX1_behind 4 = .ok (.getfield 19, 3) := by decide +kernel
theorem dX1_behind_7 : decode cX1_behind 7 = .ok (.if_icmp .ge 14, 3) := by decide +kernel
theorem dX1_behind_10 : decode cX1_behind 10 = .ok (.aload_n 0, 1) := by decide +kernel
theorem dX1_behind_11 : decode cX1_behind 11 = .ok (.getfield 15, 3) := by decide +kernel
theorem dX1_behind_14 : decode cX1_behind 14 = .ok (.iload_n 1, 1) := by decide +kernel
theorem dX1_behind_15 : decode cX1_behind 15 = .ok (.iconst 1, 1) := by decide +kernel
theorem dX1_behind_16 : decode cX1_behind 16 = .ok (.iadd, 1) := by decide +kernel
theorem dX1_behind_17 : decode cX1_behind 17 = .ok (.baload, 1) := by decide +kernel
theorem dX1_behind_18 : decode cX1_behind 18 = .ok (.ifCond .eq 7, 3) := by decide +kernel
theorem dX1_behind_21 : decode cX1_behind 21 = .ok (.iconst (-1), 1) := by decide +kernel
theorem dX1_behind_22 : decode cX1_behind 22 = .ok (.goto 11, 3) := by decide +kernel
theorem dX1_behind_25 : decode cX1_behind 25 = .ok (.aload_n 0, 1) := by decide +kernel
theorem dX1_behind_26 : decode cX1_behind 26 = .ok (.getfield 9, 3) := by decide +kernel
theorem dX1_behind_29 : decode cX1_behind 29 = .ok (.iload_n 1, 1) := by decide +kernel
theorem dX1_behind_30 : decode cX1_behind 30 = .ok (.iconst 1, 1) := by decide +kernel
theorem dX1_behind_31 : decode cX1_behind 31 = .ok (.iadd, 1) := by decide +kernel
theorem dX1_behind_32 : decode cX1_behind 32 = .ok (.iaload, 1) := by decide +kernel
theorem dX1_behind_33 : decode cX1_behind 33 = .ok (.ireturn, 1) := by decide +kernel
theorem dX1_token_0 : decode cX1_token 0 = .ok (.aload_n 0, 1) := by decide +kernel
theorem dX1_token_1 : decode cX1_token 1 = .ok (.iload_n 3, 1) := by decide +kernel
theorem dX1_token_2 : decode cX1_token 2 = .ok (.invokevirtual 39, 3) := by decide +kernel
theorem dX1_token_5 : decode cX1_token 5 = .ok (.istore 4, 2) := by decide +kernel
theorem dX1_token_7 : decode cX1_token 7 = .ok (.aload_n 0, 1) := by decide +kernel
theorem dX1_token_8 : decode cX1_token 8 = .ok (.iload_n 3, 1) := by decide +kernel
theorem dX1_token_9 : decode cX1_token 9 = .ok (.invokevirtual 43, 3) := by decide +kernel
theorem dX1_token_12 : decode cX1_token 12 = .ok (.istore 5, 2) := by decide +kernel
theorem dX1_token_14 : decode cX1_token 14 = .ok (.aload_n 1, 1) := by decide +kernel
theorem dX1_token_15 : decode cX1_token 15 = .ok (.iload 4, 2) := by decide +kernel
theorem dX1_token_17 : decode cX1_token 17 = .ok (.ifCond .ge 8, 3) := by decide +kernel
theorem dX1_token_20 : decode cX1_token 20 = .ok (.bipush 16, 2) := by decide +kernel
theorem dX1_token_22 : decode cX1_token 22 = .ok (.goto 7, 3) := by decide +kernel
theorem dX1_token_25 : decode cX1_token 25 = .ok (.aload_n 2, 1) := by decide +kernel
theorem dX1_token_26 : decode cX1_token 26 = .ok (.iload 4, 2) := by decide +kernel
theorem dX1_token_28 : decode cX1_token 28 = .ok (.iaload, 1) := by decide +kernel
theorem dX1_token_29 : decode cX1_token 29 = .ok (.aload_n 2, 1) := by decide +kernel
theorem dX1_token_30 : decode cX1_token 30 = .ok (.aload_n 0, 1) := by decide +kernel
theorem dX1_token_31 : decode cX1_token 31 = .ok (.getfield 9, 3) := by decide +kernel
theorem dX1_token_34 : decode cX1_token 34 = .ok (.iload_n 3, 1) := by decide +kernel
theorem dX1_token_35 : decode cX1_token 35 = .ok (.iaload, 1) := by decide +kernel
theorem dX1_token_36 : decode cX1_token 36 = .ok (.iaload, 1) := by decide +kernel
theorem dX1_token_37 : decode cX1_token 37 = .ok (.iload 5, 2) := by decide +kernel
theorem dX1_token_39 : decode cX1_token 39 = .ok (.ifCond .ge 8, 3) := by decide +kernel
theorem dX1_token_42 : decode cX1_token 42 = .ok (.bipush 16, 2) := by decide +kernel
theorem dX1_token_44 : decode cX1_token 44 = .ok (.goto 7, 3) := by decide +kernel
theorem dX1_token_47 : decode cX1_token 47 = .ok (.aload_n 2, 1) := by decide +kernel
theorem dX1_token_48 : decode cX1_token 48 = .ok (.iload 5, 2) := by decide +kernel
theorem dX1_token_50 : decode cX1_token 50 = .ok (.iaload, 1) := by decide +kernel
theorem dX1_token_51 : decode cX1_token 51 = .ok (.invokevirtual 46, 3) := by decide +kernel
theorem dX1_token_54 : decode cX1_token 54 = .ok (.ireturn, 1) := by decide +kernel
theorem dX1_tells_0 : decode cX1_tells 0 = .ok (.iconst 0, 1) := by decide +kernel
theorem dX1_tells_1 : decode cX1_tells 1 = .ok (.istore 4, 2) := by decide +kernel
theorem dX1_tells_3 : decode cX1_tells 3 = .ok (.iload 4, 2) := by decide +kernel
theorem dX1_tells_5 : decode cX1_tells 5 = .ok (.aload_n 0, 1) := by decide +kernel
theorem dX1_tells_6 : decode cX1_tells 6 = .ok (.getfield 19, 3) := by decide +kernel
theorem dX1_tells_9 : decode cX1_tells 9 = .ok (.if_icmp .ge 30, 3) := by decide +kernel
theorem dX1_tells_12 : decode cX1_tells 12 = .ok (.aload_n 0, 1) := by decide +kernel
theorem dX1_tells_13 : decode cX1_tells 13 = .ok (.aload_n 1, 1) := by decide +kernel
theorem dX1_tells_14 : decode cX1_tells 14 = .ok (.aload_n 2, 1) := by decide +kernel
theorem dX1_tells_15 : decode cX1_tells 15 = .ok (.iload 4, 2) := by decide +kernel
theorem dX1_tells_17 : decode cX1_tells 17 = .ok (.invokevirtual 52, 3) := by decide +kernel
theorem dX1_tells_20 : decode cX1_tells 20 = .ok (.aload_n 0, 1) := by decide +kernel
theorem dX1_tells_21 : decode cX1_tells 21 = .ok (.aload_n 1, 1) := by decide +kernel
theorem dX1_tells_22 : decode cX1_tells 22 = .ok (.aload_n 3, 1) := by decide +kernel
theorem dX1_tells_23 : decode cX1_tells 23 = .ok (.iload 4, 2) := by decide +kernel
theorem dX1_tells_25 : decode cX1_tells 25 = .ok (.invokevirtual 52, 3) := by decide +kernel
theorem dX1_tells_28 : decode cX1_tells 28 = .ok (.if_icmp .eq 5, 3) := by decide +kernel
theorem dX1_tells_31 : decode cX1_tells 31 = .ok (.iconst 1, 1) := by decide +kernel
theorem dX1_tells_32 : decode cX1_tells 32 = .ok (.ireturn, 1) := by decide +kernel
theorem dX1_tells_33 : decode cX1_tells 33 = .ok (.iinc 4 1, 3) := by decide +kernel
theorem dX1_tells_36 : decode cX1_tells 36 = .ok (.goto (-33), 3) := by decide +kernel
theorem dX1_tells_39 : decode cX1_tells 39 = .ok (.iconst 0, 1) := by decide +kernel
theorem dX1_tells_40 : decode cX1_tells 40 = .ok (.ireturn, 1) := by decide +kernel
theorem dX2_init_0 : decode cX2_init 0 = .ok (.aload_n 0, 1) := by decide +kernel
theorem dX2_init_1 : decode cX2_init 1 = .ok (.invokespecial 3, 3) := by decide +kernel
theorem dX2_init_4 : decode cX2_init 4 = .ok (.aload_n 0, 1) := by decide +kernel
theorem dX2_init_5 : decode cX2_init 5 = .ok (.bipush 16, 2) := by decide +kernel
theorem dX2_init_7 : decode cX2_init 7 = .ok (.newarray .boolean, 2) := by decide +kernel
theorem dX2_init_9 : decode cX2_init 9 = .ok (.putfield 9, 3) := by decide +kernel
theorem dX2_init_12 : decode cX2_init 12 = .ok (.aload_n 0, 1) := by decide +kernel
theorem dX2_init_13 : decode cX2_init 13 = .ok (.bipush 16, 2) := by decide +kernel
theorem dX2_init_15 : decode cX2_init 15 = .ok (.newarray .int, 2) := by decide +kernel
theorem dX2_init_17 : decode cX2_init 17 = .ok (.putfield 15, 3) := by decide +kernel
theorem dX2_init_20 : decode cX2_init 20 = .ok (.aload_n 0, 1) := by decide +kernel
theorem dX2_init_21 : decode cX2_init 21 = .ok (.bipush 16, 2) := by decide +kernel
theorem dX2_init_23 : decode cX2_init 23 = .ok (.newarray .int, 2) := by decide +kernel
theorem dX2_init_25 : decode cX2_init 25 = .ok (.putfield 19, 3) := by decide +kernel
theorem dX2_init_28 : decode cX2_init 28 = .ok (.aload_n 0, 1) := by decide +kernel
theorem dX2_init_29 : decode cX2_init 29 = .ok (.bipush 16, 2) := by decide +kernel
theorem dX2_init_31 : decode cX2_init 31 = .ok (.newarray .int, 2) := by decide +kernel
theorem dX2_init_33 : decode cX2_init 33 = .ok (.putfield 22, 3) := by decide +kernel
theorem dX2_init_36 : decode cX2_init 36 = .ok (.return_, 1) := by decide +kernel
theorem dX2_mayTeach_0 : decode cX2_mayTeach 0 = .ok (.iload_n 1, 1) := by decide +kernel
theorem dX2_mayTeach_1 : decode cX2_mayTeach 1 = .ok (.iconst (-1), 1) := by decide +kernel
theorem dX2_mayTeach_2 : decode cX2_mayTeach 2 = .ok (.if_icmp .eq 24, 3) := by decide +kernel
theorem dX2_mayTeach_5 : decode cX2_mayTeach 5 = .ok (.iload_n 1, 1) := by decide +kernel
theorem dX2_mayTeach_6 : decode cX2_mayTeach 6 = .ok (.aload_n 0, 1) := by decide +kernel
theorem dX2_mayTeach_7 : decode cX2_mayTeach 7 = .ok (.getfield 25, 3) := by decide +kernel
theorem dX2_mayTeach_10 : decode cX2_mayTeach 10 = .ok (.invokestatic 29, 3) := by decide +kernel
theorem dX2_mayTeach_13 : decode cX2_mayTeach 13 = .ok (.ifCond .eq 17, 3) := by decide +kernel
theorem dX2_mayTeach_16 : decode cX2_mayTeach 16 = .ok (.aload_n 0, 1) := by decide +kernel
theorem dX2_mayTeach_17 : decode cX2_mayTeach 17 = .ok (.getfield 15, 3) := by decide +kernel
theorem dX2_mayTeach_20 : decode cX2_mayTeach 20 = .ok (.iload_n 1, 1) := by decide +kernel
theorem dX2_mayTeach_21 : decode cX2_mayTeach 21 = .ok (.iaload, 1) := by decide +kernel
theorem dX2_mayTeach_22 : decode cX2_mayTeach 22 = .ok (.iload_n 2, 1) := by decide +kernel
theorem dX2_mayTeach_23 : decode cX2_mayTeach 23 = .ok (.if_icmp .ge 7, 3) := by decide +kernel
theorem dX2_mayTeach_26 : decode cX2_mayTeach 26 = .ok (.iconst 1, 1) := by decide +kernel
theorem dX2_mayTeach_27 : decode cX2_mayTeach 27 = .ok (.goto 4, 3) := by decide +kernel
theorem dX2_mayTeach_30 : decode cX2_mayTeach 30 = .ok (.iconst 0, 1) := by decide +kernel
theorem dX2_mayTeach_31 : decode cX2_mayTeach 31 = .ok (.ireturn, 1) := by decide +kernel
theorem dX2_append_0 : decode cX2_append 0 = .ok (.aload_n 0, 1) := by decide +kernel
theorem dX2_append_1 : decode cX2_append 1 = .ok (.getfield 25, 3) := by decide +kernel
theorem dX2_append_4 : decode cX2_append 4 = .ok (.bipush 16, 2) := by decide +kernel
theorem dX2_append_6 : decode cX2_append 6 = .ok (.if_icmp .lt 6, 3) := by decide +kernel
theorem dX2_append_9 : decode cX2_append 9 = .ok (.bipush (-3), 2) := by decide +kernel
theorem dX2_append_11 : decode cX2_append 11 = .ok (.ireturn, 1) := by decide +kernel
theorem dX2_append_12 : decode cX2_append 12 = .ok (.aload_n 0, 1) := by decide +kernel
theorem dX2_append_13 : decode cX2_append 13 = .ok (.getfield 15, 3) := by decide +kernel
theorem dX2_append_16 : decode cX2_append 16 = .ok (.aload_n 0, 1) := by decide +kernel
theorem dX2_append_17 : decode cX2_append 17 = .ok (.getfield 25, 3) := by decide +kernel
theorem dX2_append_20 : decode cX2_append 20 = .ok (.iload_n 1, 1) := by decide +kernel
theorem dX2_append_21 : decode cX2_append 21 = .ok (.iastore, 1) := by decide +kernel
theorem dX2_append_22 : decode cX2_append 22 = .ok (.aload_n 0, 1) := by decide +kernel
theorem dX2_append_23 : decode cX2_append 23 = .ok (.getfield 19, 3) := by decide +kernel
theorem dX2_append_26 : decode cX2_append 26 = .ok (.aload_n 0, 1) := by decide +kernel
theorem dX2_append_27 : decode cX2_append 27 = .ok (.getfield 25, 3) := by decide +kernel
theorem dX2_append_30 : decode cX2_append 30 = .ok (.iload_n 3, 1) := by decide +kernel
theorem dX2_append_31 : decode cX2_append 31 = .ok (.iastore, 1) := by decide +kernel
theorem dX2_append_32 : decode cX2_append 32 = .ok (.aload_n 0, 1) := by decide +kernel
theorem dX2_append_33 : decode cX2_append 33 = .ok (.getfield 22, 3) := by decide +kernel
theorem dX2_append_36 : decode cX2_append 36 = .ok (.aload_n 0, 1) := by decide +kernel
theorem dX2_append_37 : decode cX2_append 37 = .ok (.getfield 25, 3) := by decide +kernel
theorem dX2_append_40 : decode cX2_append 40 = .ok (.iconst 1, 1) := by decide +kernel
theorem dX2_append_41 : decode cX2_append 41 = .ok (.aload_n 0, 1) := by decide +kernel
theorem dX2_append_42 : decode cX2_append 42 = .ok (.getfield 25, 3) := by decide +kernel
theorem dX2_append_45 : decode cX2_append 45 = .ok (.ishl, 1) := by decide +kernel
theorem dX2_append_46 : decode cX2_append 46 = .ok (.iload_n 2, 1) := by decide +kernel
theorem dX2_append_47 : decode cX2_append 47 = .ok (.ifCond .ge 7, 3) := by decide +kernel
theorem dX2_append_50 : decode cX2_append 50 = .ok (.iconst 0, 1) := by decide +kernel
theorem dX2_append_51 : decode cX2_append 51 = .ok (.goto 9, 3) := by decide +kernel
theorem dX2_append_54 : decode cX2_append 54 = .ok (.aload_n 0, 1) := by decide +kernel
theorem dX2_append_55 : decode cX2_append 55 = .ok (.getfield 22, 3) := by decide +kernel
theorem dX2_append_58 : decode cX2_append 58 = .ok (.iload_n 2, 1) := by decide +kernel
theorem dX2_append_59 : decode cX2_append 59 = .ok (.iaload, 1) := by decide +kernel
theorem dX2_append_60 : decode cX2_append 60 = .ok (.ior, 1) := by decide +kernel
theorem dX2_append_61 : decode cX2_append 61 = .ok (.iastore, 1) := by decide +kernel
theorem dX2_append_62 : decode cX2_append 62 = .ok (.aload_n 0, 1) := by decide +kernel
theorem dX2_append_63 : decode cX2_append 63 = .ok (.getfield 9, 3) := by decide +kernel
theorem dX2_append_66 : decode cX2_append 66 = .ok (.aload_n 0, 1) := by decide +kernel
theorem dX2_append_67 : decode cX2_append 67 = .ok (.getfield 25, 3) := by decide +kernel
theorem dX2_append_70 : decode cX2_append 70 = .ok (.iconst 1, 1) := by decide +kernel
theorem dX2_append_71 : decode cX2_append 71 = .ok (.bastore, 1) := by decide +kernel
theorem dX2_append_72 : decode cX2_append 72 = .ok (.aload_n 0, 1) := by decide +kernel
theorem dX2_append_73 : decode cX2_append 73 = .ok (.dup, 1) := by decide +kernel
theorem dX2_append_74 : decode cX2_append 74 = .ok (.getfield 25, 3) := by decide +kernel
theorem dX2_append_77 : decode cX2_append 77 = .ok (.iconst 1, 1) := by decide +kernel
theorem dX2_append_78 : decode cX2_append 78 = .ok (.iadd, 1) := by decide +kernel
theorem dX2_append_79 : decode cX2_append 79 = .ok (.putfield 25, 3) := by decide +kernel
theorem dX2_append_82 : decode cX2_append 82 = .ok (.aload_n 0, 1) := by decide +kernel
theorem dX2_append_83 : decode cX2_append 83 = .ok (.getfield 25, 3) := by decide +kernel
theorem dX2_append_86 : decode cX2_append 86 = .ok (.iconst 1, 1) := by decide +kernel
theorem dX2_append_87 : decode cX2_append 87 = .ok (.isub, 1) := by decide +kernel
theorem dX2_append_88 : decode cX2_append 88 = .ok (.ireturn, 1) := by decide +kernel
theorem dX2_isSet_0 : decode cX2_isSet 0 = .ok (.iload_n 1, 1) := by decide +kernel
theorem dX2_isSet_1 : decode cX2_isSet 1 = .ok (.ifCond .lt 16, 3) := by decide +kernel
theorem dX2_isSet_4 : decode cX2_isSet 4 = .ok (.iload_n 1, 1) := by decide +kernel
theorem dX2_isSet_5 : decode cX2_isSet 5 = .ok (.aload_n 0, 1) := by decide +kernel
theorem dX2_isSet_6 : decode cX2_isSet 6 = .ok (.getfield 25, 3) := by decide +kernel
theorem dX2_isSet_9 : decode cX2_isSet 9 = .ok (.ishr, 1) := by decide +kernel
theorem dX2_isSet_10 : decode cX2_isSet 10 = .ok (.ifCond .ne 7, 3) := by decide +kernel
theorem dX2_isSet_13 : decode cX2_isSet 13 = .ok (.iconst 1, 1) := by decide +kernel
theorem dX2_isSet_14 : decode cX2_isSet 14 = .ok (.goto 4, 3) := by decide +kernel
theorem dX2_isSet_17 : decode cX2_isSet 17 = .ok (.iconst 0, 1) := by decide +kernel
theorem dX2_isSet_18 : decode cX2_isSet 18 = .ok (.ireturn, 1) := by decide +kernel
theorem dX2_agree_0 : decode cX2_agree 0 = .ok (.bipush (-4), 2) := by decide +kernel
theorem dX2_agree_2 : decode cX2_agree 2 = .ok (.istore_n 3, 1) := by decide +kernel
theorem dX2_agree_3 : decode cX2_agree 3 = .ok (.iconst 0, 1) := by decide +kernel
theorem dX2_agree_4 : decode cX2_agree 4 = .ok (.istore 4, 2) := by decide +kernel
theorem dX2_agree_6 : decode cX2_agree 6 = .ok (.iload 4, 2) := by decide +kernel
theorem dX2_agree_8 : decode cX2_agree 8 = .ok (.aload_n 0, 1) := by decide +kernel
theorem dX2_agree_9 : decode cX2_agree 9 = .ok (.getfield 25, 3) := by decide +kernel
theorem dX2_agree_12 : decode cX2_agree 12 = .ok (.if_icmp .ge 68, 3) := by decide +kernel
theorem dX2_agree_15 : decode cX2_agree 15 = .ok (.aload_n 0, 1) := by decide +kernel
theorem dX2_agree_16 : decode cX2_agree 16 = .ok (.getfield 9, 3) := by decide +kernel
theorem dX2_agree_19 : decode cX2_agree 19 = .ok (.iload 4, 2) := by decide +kernel
theorem dX2_agree_21 : decode cX2_agree 21 = .ok (.baload, 1) := by decide +kernel
theorem dX2_agree_22 : decode cX2_agree 22 = .ok (.ifCond .eq 52, 3) := by decide +kernel
theorem dX2_agree_25 : decode cX2_agree 25 = .ok (.iload_n 2, 1) := by decide +kernel
theorem dX2_agree_26 : decode cX2_agree 26 = .ok (.aload_n 1, 1) := by decide +kernel
theorem dX2_agree_27 : decode cX2_agree 27 = .ok (.getfield 33, 3) := by decide +kernel
theorem dX2_agree_30 : decode cX2_agree 30 = .ok (.aload_n 0, 1) := by decide +kernel
theorem dX2_agree_31 : decode cX2_agree 31 = .ok (.getfield 19, 3) := by decide +kernel
theorem dX2_agree_34 : decode cX2_agree 34 = .ok (.iload 4, 2) := by decide +kernel
theorem dX2_agree_36 : decode cX2_agree 36 = .ok (.iaload, 1) := by decide +kernel
theorem dX2_agree_37 : decode cX2_agree 37 = .ok (.iaload, 1) := by decide +kernel
theorem dX2_agree_38 : decode cX2_agree 38 = .ok (.if_icmp .ge 36, 3) := by decide +kernel
theorem dX2_agree_41 : decode cX2_agree 41 = .ok (.aload_n 1, 1) := by decide +kernel
theorem dX2_agree_42 : decode cX2_agree 42 = .ok (.getfield 38, 3) := by decide +kernel
theorem dX2_agree_45 : decode cX2_agree 45 = .ok (.aload_n 0, 1) := by decide +kernel
theorem dX2_agree_46 : decode cX2_agree 46 = .ok (.getfield 19, 3) := by decide +kernel
theorem dX2_agree_49 : decode cX2_agree 49 = .ok (.iload 4, 2) := by decide +kernel
theorem dX2_agree_51 : decode cX2_agree 51 = .ok (.iaload, 1) := by decide +kernel
theorem dX2_agree_52 : decode cX2_agree 52 = .ok (.aaload, 1) := by decide +kernel
theorem dX2_agree_53 : decode cX2_agree 53 = .ok (.iload_n 2, 1) := by decide +kernel
theorem dX2_agree_54 : decode cX2_agree 54 = .ok (.iaload, 1) := by decide +kernel
theorem dX2_agree_55 : decode cX2_agree 55 = .ok (.istore 5, 2) := by decide +kernel
theorem dX2_agree_57 : decode cX2_agree 57 = .ok (.iload_n 3, 1) := by decide +kernel
theorem dX2_agree_58 : decode cX2_agree 58 = .ok (.bipush (-4), 2) := by decide +kernel
theorem dX2_agree_60 : decode cX2_agree 60 = .ok (.if_icmp .eq 11, 3) := by decide +kernel
theorem dX2_agree_63 : decode cX2_agree 63 = .ok (.iload_n 3, 1) := by decide +kernel
theorem dX2_agree_64 : decode cX2_agree 64 = .ok (.iload 5, 2) := by decide +kernel
theorem dX2_agree_66 : decode cX2_agree 66 = .ok (.if_icmp .eq 5, 3) := by decide +kernel
theorem dX2_agree_69 : decode cX2_agree 69 = .ok (.iconst 0, 1) := by decide +kernel
theorem dX2_agree_70 : decode cX2_agree 70 = .ok (.ireturn, 1) := by decide +kernel
theorem dX2_agree_71 : decode cX2_agree 71 = .ok (.iload 5, 2) := by decide +kernel
theorem dX2_agree_73 : decode cX2_agree 73 = .ok (.istore_n 3, 1) := by decide +kernel
theorem dX2_agree_74 : decode cX2_agree 74 = .ok (.iinc 4 1, 3) := by decide +kernel
theorem dX2_agree_77 : decode cX2_agree 77 = .ok (.goto (-71), 3) := by decide +kernel
theorem dX2_agree_80 : decode cX2_agree 80 = .ok (.iconst 1, 1) := by decide +kernel
theorem dX2_agree_81 : decode cX2_agree 81 = .ok (.ireturn, 1) := by decide +kernel
theorem dX2_allHave_0 : decode cX2_allHave 0 = .ok (.iconst 0, 1) := by decide +kernel
theorem dX2_allHave_1 : decode cX2_allHave 1 = .ok (.istore 4, 2) := by decide +kernel
theorem dX2_allHave_3 : decode cX2_allHave 3 = .ok (.iload 4, 2) := by decide +kernel
theorem dX2_allHave_5 : decode cX2_allHave 5 = .ok (.aload_n 0, 1) := by decide +kernel
theorem dX2_allHave_6 : decode cX2_allHave 6 = .ok (.getfield 25, 3) := by decide +kernel
theorem dX2_allHave_9 : decode cX2_allHave 9 = .ok (.if_icmp .ge 37, 3) := by decide +kernel
theorem dX2_allHave_12 : decode cX2_allHave 12 = .ok (.aload_n 0, 1) := by decide +kernel
theorem dX2_allHave_13 : decode cX2_allHave 13 = .ok (.getfield 9, 3) := by decide +kernel
theorem dX2_allHave_16 : decode cX2_allHave 16 = .ok (.iload 4, 2) := by decide +kernel
theorem dX2_allHave_18 : decode cX2_allHave 18 = .ok (.baload, 1) := by decide +kernel
theorem dX2_allHave_19 : decode cX2_allHave 19 = .ok (.ifCond .eq 21, 3) := by decide +kernel
theorem dX2_allHave_22 : decode cX2_allHave 22 = .ok (.aload_n 1, 1) := by decide +kernel
theorem dX2_allHave_23 : decode cX2_allHave 23 = .ok (.aload_n 0, 1) := by decide +kernel
theorem dX2_allHave_24 : decode cX2_allHave 24 = .ok (.getfield 19, 3) := by decide +kernel
theorem dX2_allHave_27 : decode cX2_allHave 27 = .ok (.iload 4, 2) := by decide +kernel
theorem dX2_allHave_29 : decode cX2_allHave 29 = .ok (.iaload, 1) := by decide +kernel
theorem dX2_allHave_30 : decode cX2_allHave 30 = .ok (.iload_n 2, 1) := by decide +kernel
theorem dX2_allHave_31 : decode cX2_allHave 31 = .ok (.iload_n 3, 1) := by decide +kernel
theorem dX2_allHave_32 : decode cX2_allHave 32 = .ok (.invokevirtual 42, 3) := by decide +kernel
theorem dX2_allHave_35 : decode cX2_allHave 35 = .ok (.ifCond .ne 5, 3) := by decide +kernel
theorem dX2_allHave_38 : decode cX2_allHave 38 = .ok (.iconst 0, 1) := by decide +kernel
theorem dX2_allHave_39 : decode cX2_allHave 39 = .ok (.ireturn, 1) := by decide +kernel
theorem dX2_allHave_40 : decode cX2_allHave 40 = .ok (.iinc 4 1, 3) := by decide +kernel
theorem dX2_allHave_43 : decode cX2_allHave 43 = .ok (.goto (-40), 3) := by decide +kernel
theorem dX2_allHave_46 : decode cX2_allHave 46 = .ok (.iconst 1, 1) := by decide +kernel
theorem dX2_allHave_47 : decode cX2_allHave 47 = .ok (.ireturn, 1) := by decide +kernel
theorem dX2_latestCommonYear_0 : decode cX2_latestCommonYear 0 = .ok (.iconst 0, 1) := by decide +kernel
theorem dX2_latestCommonYear_1 : decode cX2_latestCommonYear 1 = .ok (.istore_n 1, 1) := by decide +kernel
theorem dX2_latestCommonYear_2 : decode cX2_latestCommonYear 2 = .ok (.iconst 0, 1) := by decide +kernel
theorem dX2_latestCommonYear_3 : decode cX2_latestCommonYear 3 = .ok (.istore_n 2, 1) := by decide +kernel
theorem dX2_latestCommonYear_4 : decode cX2_latestCommonYear 4 = .ok (.iconst 0, 1) := by decide +kernel
theorem dX2_latestCommonYear_5 : decode cX2_latestCommonYear 5 = .ok (.istore_n 3, 1) := by decide +kernel
theorem dX2_latestCommonYear_6 : decode cX2_latestCommonYear 6 = .ok (.iload_n 3, 1) := by decide +kernel
theorem dX2_latestCommonYear_7 : decode cX2_latestCommonYear 7 = .ok (.aload_n 0, 1) := by decide +kernel
theorem dX2_latestCommonYear_8 : decode cX2_latestCommonYear 8 = .ok (.getfield 25, 3) := by decide +kernel
theorem dX2_latestCommonYear_11 : decode cX2_latestCommonYear 11 = .ok (.if_icmp .ge 42, 3) := by decide +kernel
theorem dX2_latestCommonYear_14 : decode cX2_latestCommonYear 14 = .ok (.aload_n 0, 1) := by decide +kernel
theorem dX2_latestCommonYear_15 : decode cX2_latestCommonYear 15 = .ok (.getfield 9, 3) := by decide +kernel
theorem dX2_latestCommonYear_18 : decode cX2_latestCommonYear 18 = .ok (.iload_n 3, 1) := by decide +kernel
theorem dX2_latestCommonYear_19 : decode cX2_latestCommonYear 19 = .ok (.baload, 1) := by decide +kernel
theorem dX2_latestCommonYear_20 : decode cX2_latestCommonYear 20 = .ok (.ifCond .eq 27, 3) := by decide +kernel
theorem dX2_latestCommonYear_23 : decode cX2_latestCommonYear 23 = .ok (.iload_n 2, 1) := by decide +kernel
theorem dX2_latestCommonYear_24 : decode cX2_latestCommonYear 24 = .ok (.ifCond .eq 14, 3) := by decide +kernel
theorem dX2_latestCommonYear_27 : decode cX2_latestCommonYear 27 = .ok (.iload_n 1, 1) := by decide +kernel
theorem dX2_latestCommonYear_28 : decode cX2_latestCommonYear 28 = .ok (.aload_n 0, 1) := by decide +kernel
theorem dX2_latestCommonYear_29 : decode cX2_latestCommonYear 29 = .ok (.getfield 22, 3) := by decide +kernel
theorem dX2_latestCommonYear_32 : decode cX2_latestCommonYear 32 = .ok (.iload_n 3, 1) := by decide +kernel
theorem dX2_latestCommonYear_33 : decode cX2_latestCommonYear 33 = .ok (.iaload, 1) := by decide +kernel
theorem dX2_latestCommonYear_34 : decode cX2_latestCommonYear 34 = .ok (.iand, 1) := by decide +kernel
theorem dX2_latestCommonYear_35 : decode cX2_latestCommonYear 35 = .ok (.goto 9, 3) := by decide +kernel
theorem dX2_latestCommonYear_38 : decode cX2_latestCommonYear 38 = .ok (.aload_n 0, 1) := by decide +kernel
theorem dX2_latestCommonYear_39 : decode cX2_latestCommonYear 39 = .ok (.getfield 22, 3) := by decide +kernel
theorem dX2_latestCommonYear_42 : decode cX2_latestCommonYear 42 = .ok (.iload_n 3, 1) := by decide +kernel
theorem dX2_latestCommonYear_43 : decode cX2_latestCommonYear 43 = .ok (.iaload, 1) := by decide +kernel
theorem dX2_latestCommonYear_44 : decode cX2_latestCommonYear 44 = .ok (.istore_n 1, 1) := by decide +kernel
theorem dX2_latestCommonYear_45 : decode cX2_latestCommonYear 45 = .ok (.iconst 1, 1) := by decide +kernel
theorem dX2_latestCommonYear_46 : decode cX2_latestCommonYear 46 = .ok (.istore_n 2, 1) := by decide +kernel
theorem dX2_latestCommonYear_47 : decode cX2_latestCommonYear 47 = .ok (.iinc 3 1, 3) := by decide +kernel
theorem dX2_latestCommonYear_50 : decode cX2_latestCommonYear 50 = .ok (.goto (-44), 3) := by decide +kernel
theorem dX2_latestCommonYear_53 : decode cX2_latestCommonYear 53 = .ok (.bipush (-4), 2) := by decide +kernel
theorem dX2_latestCommonYear_55 : decode cX2_latestCommonYear 55 = .ok (.istore_n 3, 1) := by decide +kernel
theorem dX2_latestCommonYear_56 : decode cX2_latestCommonYear 56 = .ok (.iconst 0, 1) := by decide +kernel
theorem dX2_latestCommonYear_57 : decode cX2_latestCommonYear 57 = .ok (.istore 4, 2) := by decide +kernel
theorem dX2_latestCommonYear_59 : decode cX2_latestCommonYear 59 = .ok (.iload 4, 2) := by decide +kernel
theorem dX2_latestCommonYear_61 : decode cX2_latestCommonYear 61 = .ok (.aload_n 0, 1) := by decide +kernel
theorem dX2_latestCommonYear_62 : decode cX2_latestCommonYear 62 = .ok (.getfield 25, 3) := by decide +kernel
theorem dX2_latestCommonYear_65 : decode cX2_latestCommonYear 65 = .ok (.if_icmp .ge 31, 3) := by decide +kernel
theorem dX2_latestCommonYear_68 : decode cX2_latestCommonYear 68 = .ok (.iload_n 1, 1) := by decide +kernel
theorem dX2_latestCommonYear_69 : decode cX2_latestCommonYear 69 = .ok (.iload 4, 2) := by decide +kernel
theorem dX2_latestCommonYear_71 : decode cX2_latestCommonYear 71 = .ok (.ishr, 1) := by decide +kernel
theorem dX2_latestCommonYear_72 : decode cX2_latestCommonYear 72 = .ok (.iconst 1, 1) := by decide +kernel
theorem dX2_latestCommonYear_73 : decode cX2_latestCommonYear 73 = .ok (.iand, 1) := by decide +kernel
theorem dX2_latestCommonYear_74 : decode cX2_latestCommonYear 74 = .ok (.iconst 1, 1) := by decide +kernel
theorem dX2_latestCommonYear_75 : decode cX2_latestCommonYear 75 = .ok (.if_icmp .ne 15, 3) := by decide +kernel
theorem dX2_latestCommonYear_78 : decode cX2_latestCommonYear 78 = .ok (.iload_n 3, 1) := by decide +kernel
theorem dX2_latestCommonYear_79 : decode cX2_latestCommonYear 79 = .ok (.aload_n 0, 1) := by decide +kernel
theorem dX2_latestCommonYear_80 : decode cX2_latestCommonYear 80 = .ok (.getfield 15, 3) := by decide +kernel
theorem dX2_latestCommonYear_83 : decode cX2_latestCommonYear 83 = .ok (.iload 4, 2) := by decide +kernel
theorem dX2_latestCommonYear_85 : decode cX2_latestCommonYear 85 = .ok (.iaload, 1) := by decide +kernel
theorem dX2_latestCommonYear_86 : decode cX2_latestCommonYear 86 = .ok (.invokestatic 46, 3) := by decide +kernel
theorem dX2_latestCommonYear_89 : decode cX2_latestCommonYear 89 = .ok (.istore_n 3, 1) := by decide +kernel
theorem dX2_latestCommonYear_90 : decode cX2_latestCommonYear 90 = .ok (.iinc 4 1, 3) := by decide +kernel
theorem dX2_latestCommonYear_93 : decode cX2_latestCommonYear 93 = .ok (.goto (-34), 3) := by decide +kernel
theorem dX2_latestCommonYear_96 : decode cX2_latestCommonYear 96 = .ok (.iload_n 3, 1) := by decide +kernel
theorem dX2_latestCommonYear_97 : decode cX2_latestCommonYear 97 = .ok (.ireturn, 1) := by decide +kernel
theorem dX2_versesOf_0 : decode cX2_versesOf 0 = .ok (.iconst 0, 1) := by decide +kernel
theorem dX2_versesOf_1 : decode cX2_versesOf 1 = .ok (.istore_n 2, 1) := by decide +kernel
theorem dX2_versesOf_2 : decode cX2_versesOf 2 = .ok (.iconst 0, 1) := by decide +kernel
theorem dX2_versesOf_3 : decode cX2_versesOf 3 = .ok (.istore_n 3, 1) := by decide +kernel
theorem dX2_versesOf_4 : decode cX2_versesOf 4 = .ok (.iload_n 3, 1) := by decide +kernel
theorem dX2_versesOf_5 : decode cX2_versesOf 5 = .ok (.aload_n 0, 1) := by decide +kernel
theorem dX2_versesOf_6 : decode cX2_versesOf 6 = .ok (.getfield 25, 3) := by decide +kernel
theorem dX2_versesOf_9 : decode cX2_versesOf 9 = .ok (.if_icmp .ge 38, 3) := by decide +kernel
theorem dX2_versesOf_12 : decode cX2_versesOf 12 = .ok (.aload_n 0, 1) := by decide +kernel
theorem dX2_versesOf_13 : decode cX2_versesOf 13 = .ok (.getfield 9, 3) := by decide +kernel
theorem dX2_versesOf_16 : decode cX2_versesOf 16 = .ok (.iload_n 3, 1) := by decide +kernel
theorem dX2_versesOf_17 : decode cX2_versesOf 17 = .ok (.baload, 1) := by decide +kernel
theorem dX2_versesOf_18 : decode cX2_versesOf 18 = .ok (.ifCond .eq 23, 3) := by decide +kernel
theorem dX2_versesOf_21 : decode cX2_versesOf 21 = .ok (.iload_n 1, 1) := by decide +kernel
theorem dX2_versesOf_22 : decode cX2_versesOf 22 = .ok (.iload_n 3, 1) := by decide +kernel
theorem dX2_versesOf_23 : decode cX2_versesOf 23 = .ok (.ishr, 1) := by decide +kernel
theorem dX2_versesOf_24 : decode cX2_versesOf 24 = .ok (.iconst 1, 1) := by decide +kernel
theorem dX2_versesOf_25 : decode cX2_versesOf 25 = .ok (.iand, 1) := by decide +kernel
theorem dX2_versesOf_26 : decode cX2_versesOf 26 = .ok (.iconst 1, 1) := by decide +kernel
theorem dX2_versesOf_27 : decode cX2_versesOf 27 = .ok (.if_icmp .ne 14, 3) := by decide +kernel
theorem dX2_versesOf_30 : decode cX2_versesOf 30 = .ok (.iload_n 2, 1) := by decide +kernel
theorem dX2_versesOf_31 : decode cX2_versesOf 31 = .ok (.iconst 1, 1) := by decide +kernel
theorem dX2_versesOf_32 : decode cX2_versesOf 32 = .ok (.aload_n 0, 1) := by decide +kernel
theorem dX2_versesOf_33 : decode cX2_versesOf 33 = .ok (.getfield 19, 3) := by decide +kernel
theorem dX2_versesOf_36 : decode cX2_versesOf 36 = .ok (.iload_n 3, 1) := by decide +kernel
theorem dX2_versesOf_37 : decode cX2_versesOf 37 = .ok (.iaload, 1) := by decide +kernel
theorem dX2_versesOf_38 : decode cX2_versesOf 38 = .ok (.ishl, 1) := by decide +kernel
theorem dX2_versesOf_39 : decode cX2_versesOf 39 = .ok (.ior, 1) := by decide +kernel
theorem dX2_versesOf_40 : decode cX2_versesOf 40 = .ok (.istore_n 2, 1) := by decide +kernel
theorem dX2_versesOf_41 : decode cX2_versesOf 41 = .ok (.iinc 3 1, 3) := by decide +kernel
theorem dX2_versesOf_44 : decode cX2_versesOf 44 = .ok (.goto (-40), 3) := by decide +kernel
theorem dX2_versesOf_47 : decode cX2_versesOf 47 = .ok (.iload_n 2, 1) := by decide +kernel
theorem dX2_versesOf_48 : decode cX2_versesOf 48 = .ok (.ireturn, 1) := by decide +kernel
theorem dX2_lowestWith_0 : decode cX2_lowestWith 0 = .ok (.iconst 0, 1) := by decide +kernel
theorem dX2_lowestWith_1 : decode cX2_lowestWith 1 = .ok (.istore_n 3, 1) := by decide +kernel
theorem dX2_lowestWith_2 : decode cX2_lowestWith 2 = .ok (.iload_n 3, 1) := by decide +kernel
theorem dX2_lowestWith_3 : decode cX2_lowestWith 3 = .ok (.aload_n 0, 1) := by decide +kernel
theorem dX2_lowestWith_4 : decode cX2_lowestWith 4 = .ok (.getfield 25, 3) := by decide +kernel
theorem dX2_lowestWith_7 : decode cX2_lowestWith 7 = .ok (.if_icmp .ge 39, 3) := by decide +kernel
theorem dX2_lowestWith_10 : decode cX2_lowestWith 10 = .ok (.aload_n 0, 1) := by decide +kernel
theorem dX2_lowestWith_11 : decode cX2_lowestWith 11 = .ok (.getfield 9, 3) := by decide +kernel
theorem dX2_lowestWith_14 : decode cX2_lowestWith 14 = .ok (.iload_n 3, 1) := by decide +kernel
theorem dX2_lowestWith_15 : decode cX2_lowestWith 15 = .ok (.baload, 1) := by decide +kernel
theorem dX2_lowestWith_16 : decode cX2_lowestWith 16 = .ok (.ifCond .eq 24, 3) := by decide +kernel
theorem dX2_lowestWith_19 : decode cX2_lowestWith 19 = .ok (.iload_n 1, 1) := by decide +kernel
theorem dX2_lowestWith_20 : decode cX2_lowestWith 20 = .ok (.iload_n 3, 1) := by decide +kernel
theorem dX2_lowestWith_21 : decode cX2_lowestWith 21 = .ok (.ishr, 1) := by decide +kernel
theorem dX2_lowestWith_22 : decode cX2_lowestWith 22 = .ok (.iconst 1, 1) := by decide +kernel
theorem dX2_lowestWith_23 : decode cX2_lowestWith 23 = .ok (.iand, 1) := by decide +kernel
theorem dX2_lowestWith_24 : decode cX2_lowestWith 24 = .ok (.iconst 1, 1) := by decide +kernel
theorem dX2_lowestWith_25 : decode cX2_lowestWith 25 = .ok (.if_icmp .ne 15, 3) := by decide +kernel
theorem dX2_lowestWith_28 : decode cX2_lowestWith 28 = .ok (.aload_n 0, 1) := by decide +kernel
theorem dX2_lowestWith_29 : decode cX2_lowestWith 29 = .ok (.getfield 19, 3) := by decide +kernel
theorem dX2_lowestWith_32 : decode cX2_lowestWith 32 = .ok (.iload_n 3, 1) := by decide +kernel
theorem dX2_lowestWith_33 : decode cX2_lowestWith 33 = .ok (.iaload, 1) := by decide +kernel
theorem dX2_lowestWith_34 : decode cX2_lowestWith 34 = .ok (.iload_n 2, 1) := by decide +kernel
theorem dX2_lowestWith_35 : decode cX2_lowestWith 35 = .ok (.if_icmp .ne 5, 3) := by decide +kernel
theorem dX2_lowestWith_38 : decode cX2_lowestWith 38 = .ok (.iload_n 3, 1) := by decide +kernel
theorem dX2_lowestWith_39 : decode cX2_lowestWith 39 = .ok (.ireturn, 1) := by decide +kernel
theorem dX2_lowestWith_40 : decode cX2_lowestWith 40 = .ok (.iinc 3 1, 3) := by decide +kernel
theorem dX2_lowestWith_43 : decode cX2_lowestWith 43 = .ok (.goto (-41), 3) := by decide +kernel
theorem dX2_lowestWith_46 : decode cX2_lowestWith 46 = .ok (.bipush (-4), 2) := by decide +kernel
theorem dX2_lowestWith_48 : decode cX2_lowestWith 48 = .ok (.ireturn, 1) := by decide +kernel
theorem dX3_init_0 : decode cX3_init 0 = .ok (.aload_n 0, 1) := by decide +kernel
theorem dX3_init_1 : decode cX3_init 1 = .ok (.invokespecial 5, 3) := by decide +kernel
theorem dX3_init_4 : decode cX3_init 4 = .ok (.aload_n 0, 1) := by decide +kernel
theorem dX3_init_5 : decode cX3_init 5 = .ok (.bipush 8, 2) := by decide +kernel
theorem dX3_init_7 : decode cX3_init 7 = .ok (.sipush 128, 3) := by decide +kernel
theorem dX3_init_10 : decode cX3_init 10 = .ok (.multianewarray 11 2, 4) := by decide +kernel
theorem dX3_init_14 : decode cX3_init 14 = .ok (.putfield 13, 3) := by decide +kernel
theorem dX3_init_17 : decode cX3_init 17 = .ok (.aload_n 0, 1) := by decide +kernel
theorem dX3_init_18 : decode cX3_init 18 = .ok (.bipush 8, 2) := by decide +kernel
theorem dX3_init_20 : decode cX3_init 20 = .ok (.sipush 128, 3) := by decide +kernel
theorem dX3_init_23 : decode cX3_init 23 = .ok (.multianewarray 16 2, 4) := by decide +kernel
theorem dX3_init_27 : decode cX3_init 27 = .ok (.putfield 18, 3) := by decide +kernel
theorem dX3_init_30 : decode cX3_init 30 = .ok (.aload_n 0, 1) := by decide +kernel
theorem dX3_init_31 : decode cX3_init 31 = .ok (.bipush 8, 2) := by decide +kernel
theorem dX3_init_33 : decode cX3_init 33 = .ok (.newarray .int, 2) := by decide +kernel
theorem dX3_init_35 : decode cX3_init 35 = .ok (.putfield 21, 3) := by decide +kernel
theorem dX3_init_38 : decode cX3_init 38 = .ok (.aload_n 0, 1) := by decide +kernel
theorem dX3_init_39 : decode cX3_init 39 = .ok (.new 25, 3) := by decide +kernel
theorem dX3_init_42 : decode cX3_init 42 = .ok (.dup, 1) := by decide +kernel
theorem dX3_init_43 : decode cX3_init 43 = .ok (.aload_n 1, 1) := by decide +kernel
theorem dX3_init_44 : decode cX3_init 44 = .ok (.invokespecial 27, 3) := by decide +kernel
theorem dX3_init_47 : decode cX3_init 47 = .ok (.putfield 30, 3) := by decide +kernel
theorem dX3_init_50 : decode cX3_init 50 = .ok (.return_, 1) := by decide +kernel
theorem dX3_begin_0 : decode cX3_begin 0 = .ok (.aload_n 0, 1) := by decide +kernel
theorem dX3_begin_1 : decode cX3_begin 1 = .ok (.iload_n 2, 1) := by decide +kernel
theorem dX3_begin_2 : decode cX3_begin 2 = .ok (.putfield 34, 3) := by decide +kernel
theorem dX3_begin_5 : decode cX3_begin 5 = .ok (.aload_n 0, 1) := by decide +kernel
theorem dX3_begin_6 : decode cX3_begin 6 = .ok (.aload_n 1, 1) := by decide +kernel
theorem dX3_begin_7 : decode cX3_begin 7 = .ok (.getfield 38, 3) := by decide +kernel
theorem dX3_begin_10 : decode cX3_begin 10 = .ok (.putfield 43, 3) := by decide +kernel
theorem dX3_begin_13 : decode cX3_begin 13 = .ok (.aload_n 0, 1) := by decide +kernel
theorem dX3_begin_14 : decode cX3_begin 14 = .ok (.getfield 30, 3) := by decide +kernel
theorem dX3_begin_17 : decode cX3_begin 17 = .ok (.aload_n 1, 1) := by decide +kernel
theorem dX3_begin_18 : decode cX3_begin 18 = .ok (.invokevirtual 44, 3) := by decide +kernel
theorem dX3_begin_21 : decode cX3_begin 21 = .ok (.return_, 1) := by decide +kernel
theorem dX3_weigh_0 : decode cX3_weigh 0 = .ok (.aload_n 0, 1) := by decide +kernel
theorem dX3_weigh_1 : decode cX3_weigh 1 = .ok (.getfield 34, 3) := by decide +kernel
theorem dX3_weigh_4 : decode cX3_weigh 4 = .ok (.iconst 1, 1) := by decide +kernel
theorem dX3_weigh_5 : decode cX3_weigh 5 = .ok (.isub, 1) := by decide +kernel
theorem dX3_weigh_6 : decode cX3_weigh 6 = .ok (.istore_n 1, 1) := by decide +kernel
theorem dX3_weigh_7 : decode cX3_weigh 7 = .ok (.iload_n 1, 1) := by decide +kernel
theorem dX3_weigh_8 : decode cX3_weigh 8 = .ok (.ifCond .lt 60, 3) := by decide +kernel
theorem dX3_weigh_11 : decode cX3_weigh 11 = .ok (.iconst 0, 1) := by decide +kernel
theorem dX3_weigh_12 : decode cX3_weigh 12 = .ok (.istore_n 2, 1) := by decide +kernel
theorem dX3_weigh_13 : decode cX3_weigh 13 = .ok (.iload_n 2, 1) := by decide +kernel
theorem dX3_weigh_14 : decode cX3_weigh 14 = .ok (.bipush 8, 2) := by decide +kernel
theorem dX3_weigh_16 : decode cX3_weigh 16 = .ok (.if_icmp .ge 24, 3) := by decide +kernel
theorem dX3_weigh_19 : decode cX3_weigh 19 = .ok (.aload_n 0, 1) := by decide +kernel
theorem dX3_weigh_20 : decode cX3_weigh 20 = .ok (.getfield 21, 3) := by decide +kernel
theorem dX3_weigh_23 : decode cX3_weigh 23 = .ok (.iload_n 2, 1) := by decide +kernel
theorem dX3_weigh_24 : decode cX3_weigh 24 = .ok (.aload_n 0, 1) := by decide +kernel
theorem dX3_weigh_25 : decode cX3_weigh 25 = .ok (.getfield 30, 3) := by decide +kernel
theorem dX3_weigh_28 : decode cX3_weigh 28 = .ok (.iload_n 1, 1) := by decide +kernel
theorem dX3_weigh_29 : decode cX3_weigh 29 = .ok (.iload_n 2, 1) := by decide +kernel
theorem dX3_weigh_30 : decode cX3_weigh 30 = .ok (.invokevirtual 47, 3) := by decide +kernel
theorem dX3_weigh_33 : decode cX3_weigh 33 = .ok (.iastore, 1) := by decide +kernel
theorem dX3_weigh_34 : decode cX3_weigh 34 = .ok (.iinc 2 1, 3) := by decide +kernel
theorem dX3_weigh_37 : decode cX3_weigh 37 = .ok (.goto (-24), 3) := by decide +kernel
theorem dX3_weigh_40 : decode cX3_weigh 40 = .ok (.iconst 0, 1) := by decide +kernel
theorem dX3_weigh_41 : decode cX3_weigh 41 = .ok (.istore_n 2, 1) := by decide +kernel
theorem dX3_weigh_42 : decode cX3_weigh 42 = .ok (.iload_n 2, 1) := by decide +kernel
theorem dX3_weigh_43 : decode cX3_weigh 43 = .ok (.aload_n 0, 1) := by decide +kernel
theorem dX3_weigh_44 : decode cX3_weigh 44 = .ok (.getfield 43, 3) := by decide +kernel
theorem dX3_weigh_47 : decode cX3_weigh 47 = .ok (.if_icmp .ge 15, 3) := by decide +kernel
theorem dX3_weigh_50 : decode cX3_weigh 50 = .ok (.aload_n 0, 1) := by decide +kernel
theorem dX3_weigh_51 : decode cX3_weigh 51 = .ok (.iload_n 1, 1) := by decide +kernel
theorem dX3_weigh_52 : decode cX3_weigh 52 = .ok (.iload_n 2, 1) := by decide +kernel
theorem dX3_weigh_53 : decode cX3_weigh 53 = .ok (.invokevirtual 50, 3) := by decide +kernel
theorem dX3_weigh_56 : decode cX3_weigh 56 = .ok (.iinc 2 1, 3) := by decide +kernel
theorem dX3_weigh_59 : decode cX3_weigh 59 = .ok (.goto (-17), 3) := by decide +kernel
theorem dX3_weigh_62 : decode cX3_weigh 62 = .ok (.iinc 1 (-1), 3) := by decide +kernel
theorem dX3_weigh_65 : decode cX3_weigh 65 = .ok (.goto (-58), 3) := by decide +kernel
theorem dX3_weigh_68 : decode cX3_weigh 68 = .ok (.aload_n 0, 1) := by decide +kernel
theorem dX3_weigh_69 : decode cX3_weigh 69 = .ok (.ldc 54, 2) := by decide +kernel
theorem dX3_weigh_71 : decode cX3_weigh 71 = .ok (.putfield 55, 3) := by decide +kernel
theorem dX3_weigh_74 : decode cX3_weigh 74 = .ok (.aload_n 0, 1) := by decide +kernel
theorem dX3_weigh_75 : decode cX3_weigh 75 = .ok (.lconst 0, 1) := by decide +kernel
theorem dX3_weigh_76 : decode cX3_weigh 76 = .ok (.putfield 58, 3) := by decide +kernel
theorem dX3_weigh_79 : decode cX3_weigh 79 = .ok (.iconst 0, 1) := by decide +kernel
theorem dX3_weigh_80 : decode cX3_weigh 80 = .ok (.istore_n 1, 1) := by decide +kernel
theorem dX3_weigh_81 : decode cX3_weigh 81 = .ok (.iload_n 1, 1) := by decide +kernel
theorem dX3_weigh_82 : decode cX3_weigh 82 = .ok (.aload_n 0, 1) := by decide +kernel
theorem dX3_weigh_83 : decode cX3_weigh 83 = .ok (.getfield 43, 3) := by decide +kernel
theorem dX3_weigh_86 : decode cX3_weigh 86 = .ok (.if_icmp .ge 14, 3) := by decide +kernel
theorem dX3_weigh_89 : decode cX3_weigh 89 = .ok (.aload_n 0, 1) := by decide +kernel
theorem dX3_weigh_90 : decode cX3_weigh 90 = .ok (.iload_n 1, 1) := by decide +kernel
theorem dX3_weigh_91 : decode cX3_weigh 91 = .ok (.invokevirtual 62, 3) := by decide +kernel
theorem dX3_weigh_94 : decode cX3_weigh 94 = .ok (.iinc 1 1, 3) := by decide +kernel
theorem dX3_weigh_97 : decode cX3_weigh 97 = .ok (.goto (-16), 3) := by decide +kernel
theorem dX3_weigh_100 : decode cX3_weigh 100 = .ok (.return_, 1) := by decide +kernel
theorem dX3_weighWord_0 : decode cX3_weighWord 0 = .ok (.iconst 1, 1) := by decide +kernel
theorem dX3_weighWord_1 : decode cX3_weighWord 1 = .ok (.aload_n 0, 1) := by decide +kernel
theorem dX3_weighWord_2 : decode cX3_weighWord 2 = .ok (.getfield 30, 3) := by decide +kernel
theorem dX3_weighWord_5 : decode cX3_weighWord 5 = .ok (.iload_n 1, 1) := by decide +kernel
theorem dX3_weighWord_6 : decode cX3_weighWord 6 = .ok (.invokevirtual 66, 3) := by decide +kernel
theorem dX3_weighWord_9 : decode cX3_weighWord 9 = .ok (.ishl, 1) := by decide +kernel
theorem dX3_weighWord_10 : decode cX3_weighWord 10 = .ok (.istore_n 3, 1) := by decide +kernel
theorem dX3_weighWord_11 : decode cX3_weighWord 11 = .ok (.iload_n 1, 1) := by decide +kernel
theorem dX3_weighWord_12 : decode cX3_weighWord 12 = .ok (.aload_n 0, 1) := by decide +kernel
theorem dX3_weighWord_13 : decode cX3_weighWord 13 = .ok (.getfield 34, 3) := by decide +kernel
theorem dX3_weighWord_16 : decode cX3_weighWord 16 = .ok (.iconst 1, 1) := by decide +kernel
theorem dX3_weighWord_17 : decode cX3_weighWord 17 = .ok (.isub, 1) := by decide +kernel
theorem dX3_weighWord_18 : decode cX3_weighWord 18 = .ok (.if_icmp .ne 7, 3) := by decide +kernel
theorem dX3_weighWord_21 : decode cX3_weighWord 21 = .ok (.iconst 1, 1) := by decide +kernel
theorem dX3_weighWord_22 : decode cX3_weighWord 22 = .ok (.goto 4, 3) := by decide +kernel
theorem dX3_weighWord_25 : decode cX3_weighWord 25 = .ok (.iconst 0, 1) := by decide +kernel
theorem dX3_weighWord_26 : decode cX3_weighWord 26 = .ok (.istore 4, 2) := by decide +kernel
theorem dX3_weighWord_28 : decode cX3_weighWord 28 = .ok (.iconst 0, 1) := by decide +kernel
theorem dX3_weighWord_29 : decode cX3_weighWord 29 = .ok (.istore 5, 2) := by decide +kernel
theorem dX3_weighWord_31 : decode cX3_weighWord 31 = .ok (.iload 5, 2) := by decide +kernel
theorem dX3_weighWord_33 : decode cX3_weighWord 33 = .ok (.iload_n 3, 1) := by decide +kernel
theorem dX3_weighWord_34 : decode cX3_weighWord 34 = .ok (.if_icmp .ge 58, 3) := by decide +kernel
theorem dX3_weighWord_37 : decode cX3_weighWord 37 = .ok (.aload_n 0, 1) := by decide +kernel
theorem dX3_weighWord_38 : decode cX3_weighWord 38 = .ok (.getfield 13, 3) := by decide +kernel
theorem dX3_weighWord_41 : decode cX3_weighWord 41 = .ok (.iload_n 1, 1) := by decide +kernel
theorem dX3_weighWord_42 : decode cX3_weighWord 42 = .ok (.aaload, 1) := by decide +kernel
theorem dX3_weighWord_43 : decode cX3_weighWord 43 = .ok (.bipush 8, 2) := by decide +kernel
theorem dX3_weighWord_45 : decode cX3_weighWord 45 = .ok (.iload_n 2, 1) := by decide +kernel
theorem dX3_weighWord_46 : decode cX3_weighWord 46 = .ok (.imul, 1) := by decide +kernel
theorem dX3_weighWord_47 : decode cX3_weighWord 47 = .ok (.iload 5, 2) := by decide +kernel
theorem dX3_weighWord_49 : decode cX3_weighWord 49 = .ok (.iadd, 1) := by decide +kernel
theorem dX3_weighWord_50 : decode cX3_weighWord 50 = .ok (.iload 4, 2) := by decide +kernel
theorem dX3_weighWord_52 : decode cX3_weighWord 52 = .ok (.ifCond .eq 7, 3) := by decide +kernel
theorem dX3_weighWord_55 : decode cX3_weighWord 55 = .ok (.iconst 0, 1) := by decide +kernel
theorem dX3_weighWord_56 : decode cX3_weighWord 56 = .ok (.goto 5, 3) := by decide +kernel
theorem dX3_weighWord_59 : decode cX3_weighWord 59 = .ok (.ldc 54, 2) := by decide +kernel
theorem dX3_weighWord_61 : decode cX3_weighWord 61 = .ok (.iastore, 1) := by decide +kernel
theorem dX3_weighWord_62 : decode cX3_weighWord 62 = .ok (.aload_n 0, 1) := by decide +kernel
theorem dX3_weighWord_63 : decode cX3_weighWord 63 = .ok (.getfield 18, 3) := by decide +kernel
theorem dX3_weighWord_66 : decode cX3_weighWord 66 = .ok (.iload_n 1, 1) := by decide +kernel
theorem dX3_weighWord_67 : decode cX3_weighWord 67 = .ok (.aaload, 1) := by decide +kernel
theorem dX3_weighWord_68 : decode cX3_weighWord 68 = .ok (.bipush 8, 2) := by decide +kernel
theorem dX3_weighWord_70 : decode cX3_weighWord 70 = .ok (.iload_n 2, 1) := by decide +kernel
theorem dX3_weighWord_71 : decode cX3_weighWord 71 = .ok (.imul, 1) := by decide +kernel
theorem dX3_weighWord_72 : decode cX3_weighWord 72 = .ok (.iload 5, 2) := by decide +kernel
theorem dX3_weighWord_74 : decode cX3_weighWord 74 = .ok (.iadd, 1) := by decide +kernel
theorem dX3_weighWord_75 : decode cX3_weighWord 75 = .ok (.iload 4, 2) := by decide +kernel
theorem dX3_weighWord_77 : decode cX3_weighWord 77 = .ok (.ifCond .eq 7, 3) := by decide +kernel
theorem dX3_weighWord_80 : decode cX3_weighWord 80 = .ok (.lconst 1, 1) := by decide +kernel
theorem dX3_weighWord_81 : decode cX3_weighWord 81 = .ok (.goto 4, 3) := by decide +kernel
theorem dX3_weighWord_84 : decode cX3_weighWord 84 = .ok (.lconst 0, 1) := by decide +kernel
theorem dX3_weighWord_85 : decode cX3_weighWord 85 = .ok (.lastore, 1) := by decide +kernel
theorem dX3_weighWord_86 : decode cX3_weighWord 86 = .ok (.iinc 5 1, 3) := by decide +kernel
theorem dX3_weighWord_89 : decode cX3_weighWord 89 = .ok (.goto (-58), 3) := by decide +kernel
theorem dX3_weighWord_92 : decode cX3_weighWord 92 = .ok (.iconst 0, 1) := by decide +kernel
theorem dX3_weighWord_93 : decode cX3_weighWord 93 = .ok (.istore 5, 2) := by decide +kernel
theorem dX3_weighWord_95 : decode cX3_weighWord 95 = .ok (.iload 5, 2) := by decide +kernel
theorem dX3_weighWord_97 : decode cX3_weighWord 97 = .ok (.aload_n 0, 1) := by decide +kernel
theorem dX3_weighWord_98 : decode cX3_weighWord 98 = .ok (.getfield 43, 3) := by decide +kernel
theorem dX3_weighWord_101 : decode cX3_weighWord 101 = .ok (.if_icmp .ge 118, 3) := by decide +kernel
theorem dX3_weighWord_104 : decode cX3_weighWord 104 = .ok (.iload 4, 2) := by decide +kernel
theorem dX3_weighWord_106 : decode cX3_weighWord 106 = .ok (.ifCond .ne 113, 3) := by decide +kernel
theorem dX3_weighWord_109 : decode cX3_weighWord 109 = .ok (.aload_n 0, 1) := by decide +kernel
theorem dX3_weighWord_110 : decode cX3_weighWord 110 = .ok (.iload_n 1, 1) := by decide +kernel
theorem dX3_weighWord_111 : decode cX3_weighWord 111 = .ok (.iconst 1, 1) := by decide +kernel
theorem dX3_weighWord_112 : decode cX3_weighWord 112 = .ok (.iadd, 1) := by decide +kernel
theorem dX3_weighWord_113 : decode cX3_weighWord 113 = .ok (.iload_n 2, 1) := by decide +kernel
theorem dX3_weighWord_114 : decode cX3_weighWord 114 = .ok (.iload 5, 2) := by decide +kernel
theorem dX3_weighWord_116 : decode cX3_weighWord 116 = .ok (.invokevirtual 70, 3) := by decide +kernel
theorem dX3_weighWord_119 : decode cX3_weighWord 119 = .ok (.istore 6, 2) := by decide +kernel
theorem dX3_weighWord_121 : decode cX3_weighWord 121 = .ok (.aload_n 0, 1) := by decide +kernel
theorem dX3_weighWord_122 : decode cX3_weighWord 122 = .ok (.getfield 30, 3) := by decide +kernel
theorem dX3_weighWord_125 : decode cX3_weighWord 125 = .ok (.iload_n 1, 1) := by decide +kernel
theorem dX3_weighWord_126 : decode cX3_weighWord 126 = .ok (.iconst 1, 1) := by decide +kernel
theorem dX3_weighWord_127 : decode cX3_weighWord 127 = .ok (.iadd, 1) := by decide +kernel
theorem dX3_weighWord_128 : decode cX3_weighWord 128 = .ok (.iload_n 2, 1) := by decide +kernel
theorem dX3_weighWord_129 : decode cX3_weighWord 129 = .ok (.iload 5, 2) := by decide +kernel
theorem dX3_weighWord_131 : decode cX3_weighWord 131 = .ok (.invokevirtual 74, 3) := by decide +kernel
theorem dX3_weighWord_134 : decode cX3_weighWord 134 = .ok (.aload_n 0, 1) := by decide +kernel
theorem dX3_weighWord_135 : decode cX3_weighWord 135 = .ok (.getfield 13, 3) := by decide +kernel
theorem dX3_weighWord_138 : decode cX3_weighWord 138 = .ok (.iload_n 1, 1) := by decide +kernel
theorem dX3_weighWord_139 : decode cX3_weighWord 139 = .ok (.iconst 1, 1) := by decide +kernel
theorem dX3_weighWord_140 : decode cX3_weighWord 140 = .ok (.iadd, 1) := by decide +kernel
theorem dX3_weighWord_141 : decode cX3_weighWord 141 = .ok (.aaload, 1) := by decide +kernel
theorem dX3_weighWord_142 : decode cX3_weighWord 142 = .ok (.iload 6, 2) := by decide +kernel
theorem dX3_weighWord_144 : decode cX3_weighWord 144 = .ok (.iaload, 1) := by decide +kernel
theorem dX3_weighWord_145 : decode cX3_weighWord 145 = .ok (.iadd, 1) := by decide +kernel
theorem dX3_weighWord_146 : decode cX3_weighWord 146 = .ok (.istore 7, 2) := by decide +kernel
theorem dX3_weighWord_148 : decode cX3_weighWord 148 = .ok (.aload_n 0, 1) := by decide +kernel
theorem dX3_weighWord_149 : decode cX3_weighWord 149 = .ok (.getfield 30, 3) := by decide +kernel
theorem dX3_weighWord_152 : decode cX3_weighWord 152 = .ok (.iload_n 1, 1) := by decide +kernel
theorem dX3_weighWord_153 : decode cX3_weighWord 153 = .ok (.iconst 1, 1) := by decide +kernel
theorem dX3_weighWord_154 : decode cX3_weighWord 154 = .ok (.iload_n 2, 1) := by decide +kernel
theorem dX3_weighWord_155 : decode cX3_weighWord 155 = .ok (.iload 5, 2) := by decide +kernel
theorem dX3_weighWord_157 : decode cX3_weighWord 157 = .ok (.invokevirtual 77, 3) := by decide +kernel
theorem dX3_weighWord_160 : decode cX3_weighWord 160 = .ok (.istore 8, 2) := by decide +kernel
theorem dX3_weighWord_162 : decode cX3_weighWord 162 = .ok (.iconst 0, 1) := by decide +kernel
theorem dX3_weighWord_163 : decode cX3_weighWord 163 = .ok (.istore 9, 2) := by decide +kernel
theorem dX3_weighWord_165 : decode cX3_weighWord 165 = .ok (.iload 9, 2) := by decide +kernel
theorem dX3_weighWord_167 : decode cX3_weighWord 167 = .ok (.iload_n 3, 1) := by decide +kernel
theorem dX3_weighWord_168 : decode cX3_weighWord 168 = .ok (.if_icmp .ge 45, 3) := by decide +kernel
theorem dX3_weighWord_171 : decode cX3_weighWord 171 = .ok (.aload_n 0, 1) := by decide +kernel
theorem dX3_weighWord_172 : decode cX3_weighWord 172 = .ok (.iload_n 1, 1) := by decide +kernel
theorem dX3_weighWord_173 : decode cX3_weighWord 173 = .ok (.bipush 8, 2) := by decide +kernel
theorem dX3_weighWord_175 : decode cX3_weighWord 175 = .ok (.iload_n 2, 1) := by decide +kernel
theorem dX3_weighWord_176 : decode cX3_weighWord 176 = .ok (.imul, 1) := by decide +kernel
theorem dX3_weighWord_177 : decode cX3_weighWord 177 = .ok (.iload 9, 2) := by decide +kernel
theorem dX3_weighWord_179 : decode cX3_weighWord 179 = .ok (.iadd, 1) := by decide +kernel
theorem dX3_weighWord_180 : decode cX3_weighWord 180 = .ok (.iload 7, 2) := by decide +kernel
theorem dX3_weighWord_182 : decode cX3_weighWord 182 = .ok (.aload_n 0, 1) := by decide +kernel
theorem dX3_weighWord_183 : decode cX3_weighWord 183 = .ok (.getfield 21, 3) := by decide +kernel
theorem dX3_weighWord_186 : decode cX3_weighWord 186 = .ok (.iload 9, 2) := by decide +kernel
theorem dX3_weighWord_188 : decode cX3_weighWord 188 = .ok (.iload 8, 2) := by decide +kernel
theorem dX3_weighWord_190 : decode cX3_weighWord 190 = .ok (.iand, 1) := by decide +kernel
theorem dX3_weighWord_191 : decode cX3_weighWord 191 = .ok (.iaload, 1) := by decide +kernel
theorem dX3_weighWord_192 : decode cX3_weighWord 192 = .ok (.iadd, 1) := by decide +kernel
theorem dX3_weighWord_193 : decode cX3_weighWord 193 = .ok (.aload_n 0, 1) := by decide +kernel
theorem dX3_weighWord_194 : decode cX3_weighWord 194 = .ok (.getfield 18, 3) := by decide +kernel
theorem dX3_weighWord_197 : decode cX3_weighWord 197 = .ok (.iload_n 1, 1) := by decide +kernel
theorem dX3_weighWord_198 : decode cX3_weighWord 198 = .ok (.iconst 1, 1) := by decide +kernel
theorem dX3_weighWord_199 : decode cX3_weighWord 199 = .ok (.iadd, 1) := by decide +kernel
theorem dX3_weighWord_200 : decode cX3_weighWord 200 = .ok (.aaload, 1) := by decide +kernel
theorem dX3_weighWord_201 : decode cX3_weighWord 201 = .ok (.iload 6, 2) := by decide +kernel
theorem dX3_weighWord_203 : decode cX3_weighWord 203 = .ok (.laload, 1) := by decide +kernel
theorem dX3_weighWord_204 : decode cX3_weighWord 204 = .ok (.invokevirtual 81, 3) := by decide +kernel
theorem dX3_weighWord_207 : decode cX3_weighWord 207 = .ok (.iinc 9 1, 3) := by decide +kernel
theorem dX3_weighWord_210 : decode cX3_weighWord 210 = .ok (.goto (-45), 3) := by decide +kernel
theorem dX3_weighWord_213 : decode cX3_weighWord 213 = .ok (.iinc 5 1, 3) := by decide +kernel
theorem dX3_weighWord_216 : decode cX3_weighWord 216 = .ok (.goto (-121), 3) := by decide +kernel
theorem dX3_weighWord_219 : decode cX3_weighWord 219 = .ok (.return_, 1) := by decide +kernel
theorem dX3_take_0 : decode cX3_take 0 = .ok (.iload_n 3, 1) := by decide +kernel
theorem dX3_take_1 : decode cX3_take 1 = .ok (.aload_n 0, 1) := by decide +kernel
theorem dX3_take_2 : decode cX3_take 2 = .ok (.getfield 13, 3) := by decide +kernel
theorem dX3_take_5 : decode cX3_take 5 = .ok (.iload_n 1, 1) := by decide +kernel
theorem dX3_take_6 : decode cX3_take 6 = .ok (.aaload, 1) := by decide +kernel
theorem dX3_take_7 : decode cX3_take 7 = .ok (.iload_n 2, 1) := by decide +kernel
theorem dX3_take_8 : decode cX3_take 8 = .ok (.iaload, 1) := by decide +kernel
theorem dX3_take_9 : decode cX3_take 9 = .ok (.if_icmp .ge 25, 3) := by decide +kernel
theorem dX3_take_12 : decode cX3_take 12 = .ok (.aload_n 0, 1) := by decide +kernel
theorem dX3_take_13 : decode cX3_take 13 = .ok (.getfield 13, 3) := by decide +kernel
theorem dX3_take_16 : decode cX3_take 16 = .ok (.iload_n 1, 1) := by decide +kernel
theorem dX3_take_17 : decode cX3_take 17 = .ok (.aaload, 1) := by decide +kernel
theorem dX3_take_18 : decode cX3_take 18 = .ok (.iload_n 2, 1) := by decide +kernel
theorem dX3_take_19 : decode cX3_take 19 = .ok (.iload_n 3, 1) := by decide +kernel
theorem dX3_take_20 : decode cX3_take 20 = .ok (.iastore, 1) := by decide +kernel
theorem dX3_take_21 : decode cX3_take 21 = .ok (.aload_n 0, 1) := by decide +kernel
theorem dX3_take_22 : decode cX3_take 22 = .ok (.getfield 18, 3) := by decide +kernel
theorem dX3_take_25 : decode cX3_take 25 = .ok (.iload_n 1, 1) := by decide +kernel
theorem dX3_take_26 : decode cX3_take 26 = .ok (.aaload, 1) := by decide +kernel
theorem dX3_take_27 : decode cX3_take 27 = .ok (.iload_n 2, 1) := by decide +kernel
theorem dX3_take_28 : decode cX3_take 28 = .ok (.lload 4, 2) := by decide +kernel
theorem dX3_take_30 : decode cX3_take 30 = .ok (.lastore, 1) := by decide +kernel
theorem dX3_take_31 : decode cX3_take 31 = .ok (.goto 28, 3) := by decide +kernel
theorem dX3_take_34 : decode cX3_take 34 = .ok (.iload_n 3, 1) := by decide +kernel
theorem dX3_take_35 : decode cX3_take 35 = .ok (.aload_n 0, 1) := by decide +kernel
theorem dX3_take_36 : decode cX3_take 36 = .ok (.getfield 13, 3) := by decide +kernel
theorem dX3_take_39 : decode cX3_take 39 = .ok (.iload_n 1, 1) := by decide +kernel
theorem dX3_take_40 : decode cX3_take 40 = .ok (.aaload, 1) := by decide +kernel
theorem dX3_take_41 : decode cX3_take 41 = .ok (.iload_n 2, 1) := by decide +kernel
theorem dX3_take_42 : decode cX3_take 42 = .ok (.iaload, 1) := by decide +kernel
theorem dX3_take_43 : decode cX3_take 43 = .ok (.if_icmp .ne 16, 3) := by decide +kernel
theorem dX3_take_46 : decode cX3_take 46 = .ok (.aload_n 0, 1) := by decide +kernel
theorem dX3_take_47 : decode cX3_take 47 = .ok (.getfield 18, 3) := by decide +kernel
theorem dX3_take_50 : decode cX3_take 50 = .ok (.iload_n 1, 1) := by decide +kernel
theorem dX3_take_51 : decode cX3_take 51 = .ok (.aaload, 1) := by decide +kernel
theorem dX3_take_52 : decode cX3_take 52 = .ok (.iload_n 2, 1) := by decide +kernel
theorem dX3_take_53 : decode cX3_take 53 = .ok (.dup2, 1) := by decide +kernel
theorem dX3_take_54 : decode cX3_take 54 = .ok (.laload, 1) := by decide +kernel
theorem dX3_take_55 : decode cX3_take 55 = .ok (.lload 4, 2) := by decide +kernel
theorem dX3_take_57 : decode cX3_take 57 = .ok (.ladd, 1) := by decide +kernel
theorem dX3_take_58 : decode cX3_take 58 = .ok (.lastore, 1) := by decide +kernel
theorem dX3_take_59 : decode cX3_take 59 = .ok (.return_, 1) := by decide +kernel
theorem dX3_weighStart_0 : decode cX3_weighStart 0 = .ok (.aload_n 0, 1) := by decide +kernel
theorem dX3_weighStart_1 : decode cX3_weighStart 1 = .ok (.iconst 0, 1) := by decide +kernel
theorem dX3_weighStart_2 : decode cX3_weighStart 2 = .ok (.bipush 16, 2) := by decide +kernel
theorem dX3_weighStart_4 : decode cX3_weighStart 4 = .ok (.iload_n 1, 1) := by decide +kernel
theorem dX3_weighStart_5 : decode cX3_weighStart 5 = .ok (.invokevirtual 70, 3) := by decide +kernel
theorem dX3_weighStart_8 : decode cX3_weighStart 8 = .ok (.istore_n 2, 1) := by decide +kernel
theorem dX3_weighStart_9 : decode cX3_weighStart 9 = .ok (.aload_n 0, 1) := by decide +kernel
theorem dX3_weighStart_10 : decode cX3_weighStart 10 = .ok (.getfield 30, 3) := by decide +kernel
theorem dX3_weighStart_13 : decode cX3_weighStart 13 = .ok (.iconst 0, 1) := by decide +kernel
theorem dX3_weighStart_14 : decode cX3_weighStart 14 = .ok (.bipush 16, 2) := by decide +kernel
theorem dX3_weighStart_16 : decode cX3_weighStart 16 = .ok (.iload_n 1, 1) := by decide +kernel
theorem dX3_weighStart_17 : decode cX3_weighStart 17 = .ok (.invokevirtual 74, 3) := by decide +kernel
theorem dX3_weighStart_20 : decode cX3_weighStart 20 = .ok (.aload_n 0, 1) := by decide +kernel
theorem dX3_weighStart_21 : decode cX3_weighStart 21 = .ok (.getfield 13, 3) := by decide +kernel
theorem dX3_weighStart_24 : decode cX3_weighStart 24 = .ok (.iconst 0, 1) := by decide +kernel
theorem dX3_weighStart_25 : decode cX3_weighStart 25 = .ok (.aaload, 1) := by decide +kernel
theorem dX3_weighStart_26 : decode cX3_weighStart 26 = .ok (.iload_n 2, 1) := by decide +kernel
theorem dX3_weighStart_27 : decode cX3_weighStart 27 = .ok (.iaload, 1) := by decide +kernel
theorem dX3_weighStart_28 : decode cX3_weighStart 28 = .ok (.iadd, 1) := by decide +kernel
theorem dX3_weighStart_29 : decode cX3_weighStart 29 = .ok (.istore_n 3, 1) := by decide +kernel
theorem dX3_weighStart_30 : decode cX3_weighStart 30 = .ok (.iload_n 3, 1) := by decide +kernel
theorem dX3_weighStart_31 : decode cX3_weighStart 31 = .ok (.aload_n 0, 1) := by decide +kernel
theorem dX3_weighStart_32 : decode cX3_weighStart 32 = .ok (.getfield 55, 3) := by decide +kernel
theorem dX3_weighStart_35 : decode cX3_weighStart 35 = .ok (.if_icmp .ge 13, 3) := by decide +kernel
theorem dX3_weighStart_38 : decode cX3_weighStart 38 = .ok (.aload_n 0, 1) := by decide +kernel
theorem dX3_weighStart_39 : decode cX3_weighStart 39 = .ok (.iload_n 3, 1) := by decide +kernel
theorem dX3_weighStart_40 : decode cX3_weighStart 40 = .ok (.putfield 55, 3) := by decide +kernel
theorem dX3_weighStart_43 : decode cX3_weighStart 43 = .ok (.aload_n 0, 1) := by decide +kernel
theorem dX3_weighStart_44 : decode cX3_weighStart 44 = .ok (.lconst 0, 1) := by decide +kernel
theorem dX3_weighStart_45 : decode cX3_weighStart 45 = .ok (.putfield 58, 3) := by decide +kernel
theorem dX3_weighStart_48 : decode cX3_weighStart 48 = .ok (.iload_n 3, 1) := by decide +kernel
theorem dX3_weighStart_49 : decode cX3_weighStart 49 = .ok (.aload_n 0, 1) := by decide +kernel
theorem dX3_weighStart_50 : decode cX3_weighStart 50 = .ok (.getfield 55, 3) := by decide +kernel
theorem dX3_weighStart_53 : decode cX3_weighStart 53 = .ok (.if_icmp .ne 20, 3) := by decide +kernel
theorem dX3_weighStart_56 : decode cX3_weighStart 56 = .ok (.aload_n 0, 1) := by decide +kernel
theorem dX3_weighStart_57 : decode cX3_weighStart 57 = .ok (.dup, 1) := by decide +kernel
theorem dX3_weighStart_58 : decode cX3_weighStart 58 = .ok (.getfield 58, 3) := by decide +kernel
theorem dX3_weighStart_61 : decode cX3_weighStart 61 = .ok (.aload_n 0, 1) := by decide +kernel
theorem dX3_weighStart_62 : decode cX3_weighStart 62 = .ok (.getfield 18, 3) := by decide +kernel
theorem dX3_weighStart_65 : decode cX3_weighStart 65 = .ok (.iconst 0, 1) := by decide +kernel
theorem dX3_weighStart_66 : decode cX3_weighStart 66 = .ok (.aaload, 1) := by decide +kernel
theorem dX3_weighStart_67 : decode cX3_weighStart 67 = .ok (.iload_n 2, 1) := by decide +kernel
theorem dX3_weighStart_68 : decode cX3_weighStart 68 = .ok (.laload, 1) := by decide +kernel
theorem dX3_weighStart_69 : decode cX3_weighStart 69 = .ok (.ladd, 1) := by decide +kernel
theorem dX3_weighStart_70 : decode cX3_weighStart 70 = .ok (.putfield 58, 3) := by decide +kernel
theorem dX3_weighStart_73 : decode cX3_weighStart 73 = .ok (.return_, 1) := by decide +kernel
theorem dX3_stateOf_0 : decode cX3_stateOf 0 = .ok (.bipush 8, 2) := by decide +kernel
theorem dX3_stateOf_2 : decode cX3_stateOf 2 = .ok (.iload_n 3, 1) := by decide +kernel
theorem dX3_stateOf_3 : decode cX3_stateOf 3 = .ok (.imul, 1) := by decide +kernel
theorem dX3_stateOf_4 : decode cX3_stateOf 4 = .ok (.aload_n 0, 1) := by decide +kernel
theorem dX3_stateOf_5 : decode cX3_stateOf 5 = .ok (.getfield 30, 3) := by decide +kernel
theorem dX3_stateOf_8 : decode cX3_stateOf 8 = .ok (.iload_n 1, 1) := by decide +kernel
theorem dX3_stateOf_9 : decode cX3_stateOf 9 = .ok (.iconst 0, 1) := by decide +kernel
theorem dX3_stateOf_10 : decode cX3_stateOf 10 = .ok (.iload_n 3, 1) := by decide +kernel
theorem dX3_stateOf_11 : decode cX3_stateOf 11 = .ok (.iload_n 2, 1) := by decide +kernel
theorem dX3_stateOf_12 : decode cX3_stateOf 12 = .ok (.invokevirtual 77, 3) := by decide +kernel
theorem dX3_stateOf_15 : decode cX3_stateOf 15 = .ok (.iadd, 1) := by decide +kernel
theorem dX3_stateOf_16 : decode cX3_stateOf 16 = .ok (.ireturn, 1) := by decide +kernel
theorem dX3_unlikeWith_0 : decode cX3_unlikeWith 0 = .ok (.aload_n 0, 1) := by decide +kernel
theorem dX3_unlikeWith_1 : decode cX3_unlikeWith 1 = .ok (.getfield 30, 3) := by decide +kernel
theorem dX3_unlikeWith_4 : decode cX3_unlikeWith 4 = .ok (.iload_n 1, 1) := by decide +kernel
theorem dX3_unlikeWith_5 : decode cX3_unlikeWith 5 = .ok (.iload_n 2, 1) := by decide +kernel
theorem dX3_unlikeWith_6 : decode cX3_unlikeWith 6 = .ok (.iload 4, 2) := by decide +kernel
theorem dX3_unlikeWith_8 : decode cX3_unlikeWith 8 = .ok (.invokevirtual 74, 3) := by decide +kernel
theorem dX3_unlikeWith_11 : decode cX3_unlikeWith 11 = .ok (.istore 5, 2) := by decide +kernel
theorem dX3_unlikeWith_13 : decode cX3_unlikeWith 13 = .ok (.iload_n 1, 1) := by decide +kernel
theorem dX3_unlikeWith_14 : decode cX3_unlikeWith 14 = .ok (.ifCond .ne 6, 3) := by decide +kernel
theorem dX3_unlikeWith_17 : decode cX3_unlikeWith 17 = .ok (.iload 5, 2) := by decide +kernel
theorem dX3_unlikeWith_19 : decode cX3_unlikeWith 19 = .ok (.ireturn, 1) := by decide +kernel
theorem dX3_unlikeWith_20 : decode cX3_unlikeWith 20 = .ok (.iload_n 3, 1) := by decide +kernel
theorem dX3_unlikeWith_21 : decode cX3_unlikeWith 21 = .ok (.aload_n 0, 1) := by decide +kernel
theorem dX3_unlikeWith_22 : decode cX3_unlikeWith 22 = .ok (.getfield 30, 3) := by decide +kernel
theorem dX3_unlikeWith_25 : decode cX3_unlikeWith 25 = .ok (.iload_n 1, 1) := by decide +kernel
theorem dX3_unlikeWith_26 : decode cX3_unlikeWith 26 = .ok (.iconst 1, 1) := by decide +kernel
theorem dX3_unlikeWith_27 : decode cX3_unlikeWith 27 = .ok (.isub, 1) := by decide +kernel
theorem dX3_unlikeWith_28 : decode cX3_unlikeWith 28 = .ok (.iconst 1, 1) := by decide +kernel
theorem dX3_unlikeWith_29 : decode cX3_unlikeWith 29 = .ok (.iload_n 2, 1) := by decide +kernel
theorem dX3_unlikeWith_30 : decode cX3_unlikeWith 30 = .ok (.iload 4, 2) := by decide +kernel
theorem dX3_unlikeWith_32 : decode cX3_unlikeWith 32 = .ok (.invokevirtual 77, 3) := by decide +kernel
theorem dX3_unlikeWith_35 : decode cX3_unlikeWith 35 = .ok (.iand, 1) := by decide +kernel
theorem dX3_unlikeWith_36 : decode cX3_unlikeWith 36 = .ok (.istore 6, 2) := by decide +kernel
theorem dX3_unlikeWith_38 : decode cX3_unlikeWith 38 = .ok (.iload 5, 2) := by decide +kernel
theorem dX3_unlikeWith_40 : decode cX3_unlikeWith 40 = .ok (.aload_n 0, 1) := by decide +kernel
theorem dX3_unlikeWith_41 : decode cX3_unlikeWith 41 = .ok (.getfield 30, 3) := by decide +kernel
theorem dX3_unlikeWith_44 : decode cX3_unlikeWith 44 = .ok (.iload_n 1, 1) := by decide +kernel
theorem dX3_unlikeWith_45 : decode cX3_unlikeWith 45 = .ok (.iconst 1, 1) := by decide +kernel
theorem dX3_unlikeWith_46 : decode cX3_unlikeWith 46 = .ok (.isub, 1) := by decide +kernel
theorem dX3_unlikeWith_47 : decode cX3_unlikeWith 47 = .ok (.iload 6, 2) := by decide +kernel
theorem dX3_unlikeWith_49 : decode cX3_unlikeWith 49 = .ok (.invokevirtual 47, 3) := by decide +kernel
theorem dX3_unlikeWith_52 : decode cX3_unlikeWith 52 = .ok (.iadd, 1) := by decide +kernel
theorem dX3_unlikeWith_53 : decode cX3_unlikeWith 53 = .ok (.ireturn, 1) := by decide +kernel
theorem dX3_lowestRow_0 : decode cX3_lowestRow 0 = .ok (.aload_n 0, 1) := by decide +kernel
theorem dX3_lowestRow_1 : decode cX3_lowestRow 1 = .ok (.getfield 55, 3) := by decide +kernel
theorem dX3_lowestRow_4 : decode cX3_lowestRow 4 = .ok (.istore_n 2, 1) := by decide +kernel
theorem dX3_lowestRow_5 : decode cX3_lowestRow 5 = .ok (.bipush 16, 2) := by decide +kernel
theorem dX3_lowestRow_7 : decode cX3_lowestRow 7 = .ok (.istore_n 3, 1) := by decide +kernel
theorem dX3_lowestRow_8 : decode cX3_lowestRow 8 = .ok (.iconst 0, 1) := by decide +kernel
theorem dX3_lowestRow_9 : decode cX3_lowestRow 9 = .ok (.istore 4, 2) := by decide +kernel
theorem dX3_lowestRow_11 : decode cX3_lowestRow 11 = .ok (.iconst 0, 1) := by decide +kernel
theorem dX3_lowestRow_12 : decode cX3_lowestRow 12 = .ok (.istore 5, 2) := by decide +kernel
theorem dX3_lowestRow_14 : decode cX3_lowestRow 14 = .ok (.iload 5, 2) := by decide +kernel
theorem dX3_lowestRow_16 : decode cX3_lowestRow 16 = .ok (.aload_n 0, 1) := by decide +kernel
theorem dX3_lowestRow_17 : decode cX3_lowestRow 17 = .ok (.getfield 34, 3) := by decide +kernel
theorem dX3_lowestRow_20 : decode cX3_lowestRow 20 = .ok (.if_icmp .ge 92, 3) := by decide +kernel
theorem dX3_lowestRow_23 : decode cX3_lowestRow 23 = .ok (.iconst 0, 1) := by decide +kernel
theorem dX3_lowestRow_24 : decode cX3_lowestRow 24 = .ok (.istore 6, 2) := by decide +kernel
theorem dX3_lowestRow_26 : decode cX3_lowestRow 26 = .ok (.iload 6, 2) := by decide +kernel
theorem dX3_lowestRow_28 : decode cX3_lowestRow 28 = .ok (.aload_n 0, 1) := by decide +kernel
theorem dX3_lowestRow_29 : decode cX3_lowestRow 29 = .ok (.getfield 43, 3) := by decide +kernel
theorem dX3_lowestRow_32 : decode cX3_lowestRow 32 = .ok (.if_icmp .ge 74, 3) := by decide +kernel
theorem dX3_lowestRow_35 : decode cX3_lowestRow 35 = .ok (.aload_n 0, 1) := by decide +kernel
theorem dX3_lowestRow_36 : decode cX3_lowestRow 36 = .ok (.iload 5, 2) := by decide +kernel
theorem dX3_lowestRow_38 : decode cX3_lowestRow 38 = .ok (.iload_n 3, 1) := by decide +kernel
theorem dX3_lowestRow_39 : decode cX3_lowestRow 39 = .ok (.iload 4, 2) := by decide +kernel
theorem dX3_lowestRow_41 : decode cX3_lowestRow 41 = .ok (.iload 6, 2) := by decide +kernel
theorem dX3_lowestRow_43 : decode cX3_lowestRow 43 = .ok (.invokevirtual 85, 3) := by decide +kernel
theorem dX3_lowestRow_46 : decode cX3_lowestRow 46 = .ok (.istore 7, 2) := by decide +kernel
theorem dX3_lowestRow_48 : decode cX3_lowestRow 48 = .ok (.aload_n 0, 1) := by decide +kernel
theorem dX3_lowestRow_49 : decode cX3_lowestRow 49 = .ok (.iload 5, 2) := by decide +kernel
theorem dX3_lowestRow_51 : decode cX3_lowestRow 51 = .ok (.iload_n 3, 1) := by decide +kernel
theorem dX3_lowestRow_52 : decode cX3_lowestRow 52 = .ok (.iload 6, 2) := by decide +kernel
theorem dX3_lowestRow_54 : decode cX3_lowestRow 54 = .ok (.invokevirtual 70, 3) := by decide +kernel
theorem dX3_lowestRow_57 : decode cX3_lowestRow 57 = .ok (.istore 8, 2) := by decide +kernel
theorem dX3_lowestRow_59 : decode cX3_lowestRow 59 = .ok (.iload 7, 2) := by decide +kernel
theorem dX3_lowestRow_61 : decode cX3_lowestRow 61 = .ok (.aload_n 0, 1) := by decide +kernel
theorem dX3_lowestRow_62 : decode cX3_lowestRow 62 = .ok (.getfield 13, 3) := by decide +kernel
theorem dX3_lowestRow_65 : decode cX3_lowestRow 65 = .ok (.iload 5, 2) := by decide +kernel
theorem dX3_lowestRow_67 : decode cX3_lowestRow 67 = .ok (.aaload, 1) := by decide +kernel
theorem dX3_lowestRow_68 : decode cX3_lowestRow 68 = .ok (.iload 8, 2) := by decide +kernel
theorem dX3_lowestRow_70 : decode cX3_lowestRow 70 = .ok (.iaload, 1) := by decide +kernel
theorem dX3_lowestRow_71 : decode cX3_lowestRow 71 = .ok (.iadd, 1) := by decide +kernel
theorem dX3_lowestRow_72 : decode cX3_lowestRow 72 = .ok (.iload_n 2, 1) := by decide +kernel
theorem dX3_lowestRow_73 : decode cX3_lowestRow 73 = .ok (.if_icmp .ne 27, 3) := by decide +kernel
theorem dX3_lowestRow_76 : decode cX3_lowestRow 76 = .ok (.aload_n 1, 1) := by decide +kernel
theorem dX3_lowestRow_77 : decode cX3_lowestRow 77 = .ok (.iload 5, 2) := by decide +kernel
theorem dX3_lowestRow_79 : decode cX3_lowestRow 79 = .ok (.iload 6, 2) := by decide +kernel
theorem dX3_lowestRow_81 : decode cX3_lowestRow 81 = .ok (.iastore, 1) := by decide +kernel
theorem dX3_lowestRow_82 : decode cX3_lowestRow 82 = .ok (.iload_n 2, 1) := by decide +kernel
theorem dX3_lowestRow_83 : decode cX3_lowestRow 83 = .ok (.iload 7, 2) := by decide +kernel
theorem dX3_lowestRow_85 : decode cX3_lowestRow 85 = .ok (.isub, 1) := by decide +kernel
theorem dX3_lowestRow_86 : decode cX3_lowestRow 86 = .ok (.istore_n 2, 1) := by decide +kernel
theorem dX3_lowestRow_87 : decode cX3_lowestRow 87 = .ok (.iload 8, 2) := by decide +kernel
theorem dX3_lowestRow_89 : decode cX3_lowestRow 89 = .ok (.bipush 8, 2) := by decide +kernel
theorem dX3_lowestRow_91 : decode cX3_lowestRow 91 = .ok (.irem, 1) := by decide +kernel
theorem dX3_lowestRow_92 : decode cX3_lowestRow 92 = .ok (.istore 4, 2) := by decide +kernel
theorem dX3_lowestRow_94 : decode cX3_lowestRow 94 = .ok (.iload 6, 2) := by decide +kernel
theorem dX3_lowestRow_96 : decode cX3_lowestRow 96 = .ok (.istore_n 3, 1) := by decide +kernel
theorem dX3_lowestRow_97 : decode cX3_lowestRow 97 = .ok (.goto 9, 3) := by decide +kernel
theorem dX3_lowestRow_100 : decode cX3_lowestRow 100 = .ok (.iinc 6 1, 3) := by decide +kernel
theorem dX3_lowestRow_103 : decode cX3_lowestRow 103 = .ok (.goto (-77), 3) := by decide +kernel
theorem dX3_lowestRow_106 : decode cX3_lowestRow 106 = .ok (.iinc 5 1, 3) := by decide +kernel
theorem dX3_lowestRow_109 : decode cX3_lowestRow 109 = .ok (.goto (-95), 3) := by decide +kernel
theorem dX3_lowestRow_112 : decode cX3_lowestRow 112 = .ok (.return_, 1) := by decide +kernel
theorem dX3_farFrom_0 : decode cX3_farFrom 0 = .ok (.ldc 54, 2) := by decide +kernel
theorem dX3_farFrom_2 : decode cX3_farFrom 2 = .ok (.istore_n 2, 1) := by decide +kernel
theorem dX3_farFrom_3 : decode cX3_farFrom 3 = .ok (.bipush 16, 2) := by decide +kernel
theorem dX3_farFrom_5 : decode cX3_farFrom 5 = .ok (.istore_n 3, 1) := by decide +kernel
theorem dX3_farFrom_6 : decode cX3_farFrom 6 = .ok (.iconst 0, 1) := by decide +kernel
theorem dX3_farFrom_7 : decode cX3_farFrom 7 = .ok (.istore 4, 2) := by decide +kernel
theorem dX3_farFrom_9 : decode cX3_farFrom 9 = .ok (.iload 4, 2) := by decide +kernel
theorem dX3_farFrom_11 : decode cX3_farFrom 11 = .ok (.aload_n 0, 1) := by decide +kernel
theorem dX3_farFrom_12 : decode cX3_farFrom 12 = .ok (.getfield 34, 3) := by decide +kernel
theorem dX3_farFrom_15 : decode cX3_farFrom 15 = .ok (.if_icmp .ge 79, 3) := by decide +kernel
theorem dX3_farFrom_18 : decode cX3_farFrom 18 = .ok (.iconst 0, 1) := by decide +kernel
theorem dX3_farFrom_19 : decode cX3_farFrom 19 = .ok (.istore 5, 2) := by decide +kernel
theorem dX3_farFrom_21 : decode cX3_farFrom 21 = .ok (.iload 5, 2) := by decide +kernel
theorem dX3_farFrom_23 : decode cX3_farFrom 23 = .ok (.aload_n 0, 1) := by decide +kernel
theorem dX3_farFrom_24 : decode cX3_farFrom 24 = .ok (.getfield 43, 3) := by decide +kernel
theorem dX3_farFrom_27 : decode cX3_farFrom 27 = .ok (.if_icmp .ge 56, 3) := by decide +kernel
theorem dX3_farFrom_30 : decode cX3_farFrom 30 = .ok (.iload 5, 2) := by decide +kernel
theorem dX3_farFrom_32 : decode cX3_farFrom 32 = .ok (.aload_n 1, 1) := by decide +kernel
theorem dX3_farFrom_33 : decode cX3_farFrom 33 = .ok (.iload 4, 2) := by decide +kernel
theorem dX3_farFrom_35 : decode cX3_farFrom 35 = .ok (.iaload, 1) := by decide +kernel
theorem dX3_farFrom_36 : decode cX3_farFrom 36 = .ok (.if_icmp .eq 41, 3) := by decide +kernel
theorem dX3_farFrom_39 : decode cX3_farFrom 39 = .ok (.aload_n 0, 1) := by decide +kernel
theorem dX3_farFrom_40 : decode cX3_farFrom 40 = .ok (.iload 4, 2) := by decide +kernel
theorem dX3_farFrom_42 : decode cX3_farFrom 42 = .ok (.iload_n 3, 1) := by decide +kernel
theorem dX3_farFrom_43 : decode cX3_farFrom 43 = .ok (.bipush 7, 2) := by decide +kernel
theorem dX3_farFrom_45 : decode cX3_farFrom 45 = .ok (.iload 5, 2) := by decide +kernel
theorem dX3_farFrom_47 : decode cX3_farFrom 47 = .ok (.invokevirtual 85, 3) := by decide +kernel
theorem dX3_farFrom_50 : decode cX3_farFrom 50 = .ok (.aload_n 0, 1) := by decide +kernel
theorem dX3_farFrom_51 : decode cX3_farFrom 51 = .ok (.getfield 13, 3) := by decide +kernel
theorem dX3_farFrom_54 : decode cX3_farFrom 54 = .ok (.iload 4, 2) := by decide +kernel
theorem dX3_farFrom_56 : decode cX3_farFrom 56 = .ok (.aaload, 1) := by decide +kernel
theorem dX3_farFrom_57 : decode cX3_farFrom 57 = .ok (.aload_n 0, 1) := by decide +kernel
theorem dX3_farFrom_58 : decode cX3_farFrom 58 = .ok (.iload 4, 2) := by decide +kernel
theorem dX3_farFrom_60 : decode cX3_farFrom 60 = .ok (.iload_n 3, 1) := by decide +kernel
theorem dX3_farFrom_61 : decode cX3_farFrom 61 = .ok (.iload 5, 2) := by decide +kernel
theorem dX3_farFrom_63 : decode cX3_farFrom 63 = .ok (.invokevirtual 70, 3) := by decide +kernel
theorem dX3_farFrom_66 : decode cX3_farFrom 66 = .ok (.iaload, 1) := by decide +kernel
theorem dX3_farFrom_67 : decode cX3_farFrom 67 = .ok (.iadd, 1) := by decide +kernel
theorem dX3_farFrom_68 : decode cX3_farFrom 68 = .ok (.istore 6, 2) := by decide +kernel
theorem dX3_farFrom_70 : decode cX3_farFrom 70 = .ok (.iload_n 2, 1) := by decide +kernel
theorem dX3_farFrom_71 : decode cX3_farFrom 71 = .ok (.iload 6, 2) := by decide +kernel
theorem dX3_farFrom_73 : decode cX3_farFrom 73 = .ok (.invokestatic 88, 3) := by decide +kernel
theorem dX3_farFrom_76 : decode cX3_farFrom 76 = .ok (.istore_n 2, 1) := by decide +kernel
theorem dX3_farFrom_77 : decode cX3_farFrom 77 = .ok (.iinc 5 1, 3) := by decide +kernel
theorem dX3_farFrom_80 : decode cX3_farFrom 80 = .ok (.goto (-59), 3) := by decide +kernel
theorem dX3_farFrom_83 : decode cX3_farFrom 83 = .ok (.aload_n 1, 1) := by decide +kernel
theorem dX3_farFrom_84 : decode cX3_farFrom 84 = .ok (.iload 4, 2) := by decide +kernel
theorem dX3_farFrom_86 : decode cX3_farFrom 86 = .ok (.iaload, 1) := by decide +kernel
theorem dX3_farFrom_87 : decode cX3_farFrom 87 = .ok (.istore_n 3, 1) := by decide +kernel
theorem dX3_farFrom_88 : decode cX3_farFrom 88 = .ok (.iinc 4 1, 3) := by decide +kernel
theorem dX3_farFrom_91 : decode cX3_farFrom 91 = .ok (.goto (-82), 3) := by decide +kernel
theorem dX3_farFrom_94 : decode cX3_farFrom 94 = .ok (.iload_n 2, 1) := by decide +kernel
theorem dX3_farFrom_95 : decode cX3_farFrom 95 = .ok (.ireturn, 1) := by decide +kernel
theorem dX4_init_0 : decode cX4_init 0 = .ok (.aload_n 0, 1) := by decide +kernel
theorem dX4_init_1 : decode cX4_init 1 = .ok (.invokespecial 3, 3) := by decide +kernel
theorem dX4_init_4 : decode cX4_init 4 = .ok (.aload_n 0, 1) := by decide +kernel
theorem dX4_init_5 : decode cX4_init 5 = .ok (.sipush 300, 3) := by decide +kernel
theorem dX4_init_8 : decode cX4_init 8 = .ok (.newarray .byte, 2) := by decide +kernel
theorem dX4_init_10 : decode cX4_init 10 = .ok (.putfield 9, 3) := by decide +kernel
theorem dX4_init_13 : decode cX4_init 13 = .ok (.aload_n 0, 1) := by decide +kernel
theorem dX4_init_14 : decode cX4_init 14 = .ok (.iconst 4, 1) := by decide +kernel
theorem dX4_init_15 : decode cX4_init 15 = .ok (.newarray .int, 2) := by decide +kernel
theorem dX4_init_17 : decode cX4_init 17 = .ok (.putfield 15, 3) := by decide +kernel
theorem dX4_init_20 : decode cX4_init 20 = .ok (.return_, 1) := by decide +kernel
theorem dX4_append_0 : decode cX4_append 0 = .ok (.aload_n 0, 1) := by decide +kernel
theorem dX4_append_1 : decode cX4_append 1 = .ok (.getfield 19, 3) := by decide +kernel
theorem dX4_append_4 : decode cX4_append 4 = .ok (.iload_n 1, 1) := by decide +kernel
theorem dX4_append_5 : decode cX4_append 5 = .ok (.iadd, 1) := by decide +kernel
theorem dX4_append_6 : decode cX4_append 6 = .ok (.sipush 300, 3) := by decide +kernel
theorem dX4_append_9 : decode cX4_append 9 = .ok (.if_icmp .le 6, 3) := by decide +kernel
theorem dX4_append_12 : decode cX4_append 12 = .ok (.bipush (-3), 2) := by decide +kernel
theorem dX4_append_14 : decode cX4_append 14 = .ok (.ireturn, 1) := by decide +kernel
theorem dX4_append_15 : decode cX4_append 15 = .ok (.iload_n 1, 1) := by decide +kernel
theorem dX4_append_16 : decode cX4_append 16 = .ok (.iconst 1, 1) := by decide +kernel
theorem dX4_append_17 : decode cX4_append 17 = .ok (.isub, 1) := by decide +kernel
theorem dX4_append_18 : decode cX4_append 18 = .ok (.istore 4, 2) := by decide +kernel
theorem dX4_append_20 : decode cX4_append 20 = .ok (.iload 4, 2) := by decide +kernel
theorem dX4_append_22 : decode cX4_append 22 = .ok (.ifCond .lt 37, 3) := by decide +kernel
theorem dX4_append_25 : decode cX4_append 25 = .ok (.aload_n 0, 1) := by decide +kernel
theorem dX4_append_26 : decode cX4_append 26 = .ok (.getfield 9, 3) := by decide +kernel
theorem dX4_append_29 : decode cX4_append 29 = .ok (.aload_n 0, 1) := by decide +kernel
theorem dX4_append_30 : decode cX4_append 30 = .ok (.getfield 19, 3) := by decide +kernel
theorem dX4_append_33 : decode cX4_append 33 = .ok (.lload_n 2, 1) := by decide +kernel
theorem dX4_append_34 : decode cX4_append 34 = .ok (.bipush 8, 2) := by decide +kernel
theorem dX4_append_36 : decode cX4_append 36 = .ok (.iload 4, 2) := by decide +kernel
theorem dX4_append_38 : decode cX4_append 38 = .ok (.imul, 1) := by decide +kernel
theorem dX4_append_39 : decode cX4_append 39 = .ok (.lshr, 1) := by decide +kernel
theorem dX4_append_40 : decode cX4_append 40 = .ok (.l2i, 1) := by decide +kernel
theorem dX4_append_41 : decode cX4_append 41 = .ok (.i2b, 1) := by decide +kernel
theorem dX4_append_42 : decode cX4_append 42 = .ok (.bastore, 1) := by decide +kernel
theorem dX4_append_43 : decode cX4_append 43 = .ok (.aload_n 0, 1) := by decide +kernel
theorem dX4_append_44 : decode cX4_append 44 = .ok (.dup, 1) := by decide +kernel
theorem dX4_append_45 : decode cX4_append 45 = .ok (.getfield 19, 3) := by decide +kernel
theorem dX4_append_48 : decode cX4_append 48 = .ok (.iconst 1, 1) := by decide +kernel
theorem dX4_append_49 : decode cX4_append 49 = .ok (.iadd, 1) := by decide +kernel
theorem dX4_append_50 : decode cX4_append 50 = .ok (.putfield 19, 3) := by decide +kernel
theorem dX4_append_53 : decode cX4_append 53 = .ok (.iinc 4 (-1), 3) := by decide +kernel
theorem dX4_append_56 : decode cX4_append 56 = .ok (.goto (-36), 3) := by decide +kernel
theorem dX4_append_59 : decode cX4_append 59 = .ok (.aload_n 0, 1) := by decide +kernel
theorem dX4_append_60 : decode cX4_append 60 = .ok (.getfield 19, 3) := by decide +kernel
theorem dX4_append_63 : decode cX4_append 63 = .ok (.ireturn, 1) := by decide +kernel
theorem dX4_readInto_0 : decode cX4_readInto 0 = .ok (.aload_n 1, 1) := by decide +kernel
theorem dX4_readInto_1 : decode cX4_readInto 1 = .ok (.invokevirtual 23, 3) := by decide +kernel
theorem dX4_readInto_4 : decode cX4_readInto 4 = .ok (.aload_n 0, 1) := by decide +kernel
theorem dX4_readInto_5 : decode cX4_readInto 5 = .ok (.iconst 0, 1) := by decide +kernel
theorem dX4_readInto_6 : decode cX4_readInto 6 = .ok (.putfield 28, 3) := by decide +kernel
theorem dX4_readInto_9 : decode cX4_readInto 9 = .ok (.iconst 0, 1) := by decide +kernel
theorem dX4_readInto_10 : decode cX4_readInto 10 = .ok (.istore_n 2, 1) := by decide +kernel
theorem dX4_readInto_11 : decode cX4_readInto 11 = .ok (.iload_n 2, 1) := by decide +kernel
theorem dX4_readInto_12 : decode cX4_readInto 12 = .ok (.sipush 300, 3) := by decide +kernel
theorem dX4_readInto_15 : decode cX4_readInto 15 = .ok (.if_icmp .ge 35, 3) := by decide +kernel
theorem dX4_readInto_18 : decode cX4_readInto 18 = .ok (.aload_n 0, 1) := by decide +kernel
theorem dX4_readInto_19 : decode cX4_readInto 19 = .ok (.getfield 28, 3) := by decide +kernel
theorem dX4_readInto_22 : decode cX4_readInto 22 = .ok (.aload_n 0, 1) := by decide +kernel
theorem dX4_readInto_23 : decode cX4_readInto 23 = .ok (.getfield 19, 3) := by decide +kernel
theorem dX4_readInto_26 : decode cX4_readInto 26 = .ok (.if_icmp .ge 24, 3) := by decide +kernel
theorem dX4_readInto_29 : decode cX4_readInto 29 = .ok (.aload_n 0, 1) := by decide +kernel
theorem dX4_readInto_30 : decode cX4_readInto 30 = .ok (.getfield 28, 3) := by decide +kernel
theorem dX4_readInto_33 : decode cX4_readInto 33 = .ok (.istore_n 3, 1) := by decide +kernel
theorem dX4_readInto_34 : decode cX4_readInto 34 = .ok (.aload_n 0, 1) := by decide +kernel
theorem dX4_readInto_35 : decode cX4_readInto 35 = .ok (.aload_n 1, 1) := by decide +kernel
theorem dX4_readInto_36 : decode cX4_readInto 36 = .ok (.invokevirtual 31, 3) := by decide +kernel
theorem dX4_readInto_39 : decode cX4_readInto 39 = .ok (.ifCond .ne 5, 3) := by decide +kernel
theorem dX4_readInto_42 : decode cX4_readInto 42 = .ok (.iload_n 3, 1) := by decide +kernel
theorem dX4_readInto_43 : decode cX4_readInto 43 = .ok (.ireturn, 1) := by decide +kernel
theorem dX4_readInto_44 : decode cX4_readInto 44 = .ok (.iinc 2 1, 3) := by decide +kernel
theorem dX4_readInto_47 : decode cX4_readInto 47 = .ok (.goto (-36), 3) := by decide +kernel
theorem dX4_readInto_50 : decode cX4_readInto 50 = .ok (.bipush (-4), 2) := by decide +kernel
theorem dX4_readInto_52 : decode cX4_readInto 52 = .ok (.ireturn, 1) := by decide +kernel
theorem dX4_readItem_0 : decode cX4_readItem 0 = .ok (.aload_n 0, 1) := by decide +kernel
theorem dX4_readItem_1 : decode cX4_readItem 1 = .ok (.getfield 9, 3) := by decide +kernel
theorem dX4_readItem_4 : decode cX4_readItem 4 = .ok (.aload_n 0, 1) := by decide +kernel
theorem dX4_readItem_5 : decode cX4_readItem 5 = .ok (.getfield 28, 3) := by decide +kernel
theorem dX4_readItem_8 : decode cX4_readItem 8 = .ok (.baload, 1) := by decide +kernel
theorem dX4_readItem_9 : decode cX4_readItem 9 = .ok (.istore_n 2, 1) := by decide +kernel
theorem dX4_readItem_10 : decode cX4_readItem 10 = .ok (.aload_n 0, 1) := by decide +kernel
theorem dX4_readItem_11 : decode cX4_readItem 11 = .ok (.dup, 1) := by decide +kernel
theorem dX4_readItem_12 : decode cX4_readItem 12 = .ok (.getfield 28, 3) := by decide +kernel
theorem dX4_readItem_15 : decode cX4_readItem 15 = .ok (.iconst 1, 1) := by decide +kernel
theorem dX4_readItem_16 : decode cX4_readItem 16 = .ok (.iadd, 1) := by decide +kernel
theorem dX4_readItem_17 : decode cX4_readItem 17 = .ok (.putfield 28, 3) := by decide +kernel
theorem dX4_readItem_20 : decode cX4_readItem 20 = .ok (.iload_n 2, 1) := by decide +kernel
theorem dX4_readItem_21 : decode cX4_readItem 21 = .ok (.lookupswitch 110 #[(104, 85), (106, 60), (119, 35)], 35) := by decide +kernel
theorem dX4_readItem_56 : decode cX4_readItem 56 = .ok (.aload_n 0, 1) := by decide +kernel
theorem dX4_readItem_57 : decode cX4_readItem 57 = .ok (.iconst 3, 1) := by decide +kernel
theorem dX4_readItem_58 : decode cX4_readItem 58 = .ok (.invokevirtual 35, 3) := by decide +kernel
theorem dX4_readItem_61 : decode cX4_readItem 61 = .ok (.ifCond .eq 18, 3) := by decide +kernel
theorem dX4_readItem_64 : decode cX4_readItem 64 = .ok (.aload_n 1, 1) := by decide +kernel
theorem dX4_readItem_65 : decode cX4_readItem 65 = .ok (.aload_n 0, 1) := by decide +kernel
theorem dX4_readItem_66 : decode cX4_readItem 66 = .ok (.getfield 15, 3) := by decide +kernel
theorem dX4_readItem_69 : decode cX4_readItem 69 = .ok (.invokevirtual 39, 3) := by decide +kernel
theorem dX4_readItem_72 : decode cX4_readItem 72 = .ok (.ifCond .eq 7, 3) := by decide +kernel
theorem dX4_readItem_75 : decode cX4_readItem 75 = .ok (.iconst 1, 1) := by decide +kernel
theorem dX4_readItem_76 : decode cX4_readItem 76 = .ok (.goto 4, 3) := by decide +kernel
theorem dX4_readItem_79 : decode cX4_readItem 79 = .ok (.iconst 0, 1) := by decide +kernel
theorem dX4_readItem_80 : decode cX4_readItem 80 = .ok (.ireturn, 1) := by decide +kernel
theorem dX4_readItem_81 : decode cX4_readItem 81 = .ok (.aload_n 0, 1) := by decide +kernel
theorem dX4_readItem_82 : decode cX4_readItem 82 = .ok (.iconst 4, 1) := by decide +kernel
theorem dX4_readItem_83 : decode cX4_readItem 83 = .ok (.invokevirtual 35, 3) := by decide +kernel
theorem dX4_readItem_86 : decode cX4_readItem 86 = .ok (.ifCond .eq 18, 3) := by decide +kernel
theorem dX4_readItem_89 : decode cX4_readItem 89 = .ok (.aload_n 1, 1) := by decide +kernel
theorem dX4_readItem_90 : decode cX4_readItem 90 = .ok (.aload_n 0, 1) := by decide +kernel
theorem dX4_readItem_91 : decode cX4_readItem 91 = .ok (.getfield 15, 3) := by decide +kernel
theorem dX4_readItem_94 : decode cX4_readItem 94 = .ok (.invokevirtual 43, 3) := by decide +kernel
theorem dX4_readItem_97 : decode cX4_readItem 97 = .ok (.ifCond .eq 7, 3) := by decide +kernel
theorem dX4_readItem_100 : decode cX4_readItem 100 = .ok (.iconst 1, 1) := by decide +kernel
theorem dX4_readItem_101 : decode cX4_readItem 101 = .ok (.goto 4, 3) := by decide +kernel
theorem dX4_readItem_104 : decode cX4_readItem 104 = .ok (.iconst 0, 1) := by decide +kernel
theorem dX4_readItem_105 : decode cX4_readItem 105 = .ok (.ireturn, 1) := by decide +kernel
theorem dX4_readItem_106 : decode cX4_readItem 106 = .ok (.aload_n 0, 1) := by decide +kernel
theorem dX4_readItem_107 : decode cX4_readItem 107 = .ok (.iconst 2, 1) := by decide +kernel
theorem dX4_readItem_108 : decode cX4_readItem 108 = .ok (.invokevirtual 35, 3) := by decide +kernel
theorem dX4_readItem_111 : decode cX4_readItem 111 = .ok (.ifCond .eq 18, 3) := by decide +kernel
theorem dX4_readItem_114 : decode cX4_readItem 114 = .ok (.aload_n 1, 1) := by decide +kernel
theorem dX4_readItem_115 : decode cX4_readItem 115 = .ok (.aload_n 0, 1) := by decide +kernel
theorem dX4_readItem_116 : decode cX4_readItem 116 = .ok (.getfield 15, 3) := by decide +kernel
theorem dX4_readItem_119 : decode cX4_readItem 119 = .ok (.invokevirtual 46, 3) := by decide +kernel
theorem dX4_readItem_122 : decode cX4_readItem 122 = .ok (.ifCond .eq 7, 3) := by decide +kernel
theorem dX4_readItem_125 : decode cX4_readItem 125 = .ok (.iconst 1, 1) := by decide +kernel
theorem dX4_readItem_126 : decode cX4_readItem 126 = .ok (.goto 4, 3) := by decide +kernel
theorem dX4_readItem_129 : decode cX4_readItem 129 = .ok (.iconst 0, 1) := by decide +kernel
theorem dX4_readItem_130 : decode cX4_readItem 130 = .ok (.ireturn, 1) := by decide +kernel
theorem dX4_readItem_131 : decode cX4_readItem 131 = .ok (.iconst 0, 1) := by decide +kernel
theorem dX4_readItem_132 : decode cX4_readItem 132 = .ok (.ireturn, 1) := by decide +kernel
theorem dX4_readNumbers_0 : decode cX4_readNumbers 0 = .ok (.iconst 0, 1) := by decide +kernel
theorem dX4_readNumbers_1 : decode cX4_readNumbers 1 = .ok (.istore_n 2, 1) := by decide +kernel
theorem dX4_readNumbers_2 : decode cX4_readNumbers 2 = .ok (.iload_n 2, 1) := by decide +kernel
theorem dX4_readNumbers_3 : decode cX4_readNumbers 3 = .ok (.iload_n 1, 1) := by decide +kernel
theorem dX4_readNumbers_4 : decode cX4_readNumbers 4 = .ok (.if_icmp .ge 155, 3) := by decide +kernel
theorem dX4_readNumbers_7 : decode cX4_readNumbers 7 = .ok (.aload_n 0, 1) := by decide +kernel
theorem dX4_readNumbers_8 : decode cX4_readNumbers 8 = .ok (.getfield 28, 3) := by decide +kernel
theorem dX4_readNumbers_11 : decode cX4_readNumbers 11 = .ok (.istore_n 3, 1) := by decide +kernel
theorem dX4_readNumbers_12 : decode cX4_readNumbers 12 = .ok (.iconst 0, 1) := by decide +kernel
theorem dX4_readNumbers_13 : decode cX4_readNumbers 13 = .ok (.istore 4, 2) := by decide +kernel
theorem dX4_readNumbers_15 : decode cX4_readNumbers 15 = .ok (.aload_n 0, 1) := by decide +kernel
theorem dX4_readNumbers_16 : decode cX4_readNumbers 16 = .ok (.getfield 28, 3) := by decide +kernel
theorem dX4_readNumbers_19 : decode cX4_readNumbers 19 = .ok (.aload_n 0, 1) := by decide +kernel
theorem dX4_readNumbers_20 : decode cX4_readNumbers 20 = .ok (.getfield 19, 3) := by decide +kernel
theorem dX4_readNumbers_23 : decode cX4_readNumbers 23 = .ok (.if_icmp .ge 61, 3) := by decide +kernel
theorem dX4_readNumbers_26 : decode cX4_readNumbers 26 = .ok (.aload_n 0, 1) := by decide +kernel
theorem dX4_readNumbers_27 : decode cX4_readNumbers 27 = .ok (.getfield 28, 3) := by decide +kernel
theorem dX4_readNumbers_30 : decode cX4_readNumbers 30 = .ok (.iload_n 3, 1) := by decide +kernel
theorem dX4_readNumbers_31 : decode cX4_readNumbers 31 = .ok (.iconst 2, 1) := by decide +kernel
theorem dX4_readNumbers_32 : decode cX4_readNumbers 32 = .ok (.iadd, 1) := by decide +kernel
theorem dX4_readNumbers_33 : decode cX4_readNumbers 33 = .ok (.if_icmp .ge 51, 3) := by decide +kernel
theorem dX4_readNumbers_36 : decode cX4_readNumbers 36 = .ok (.aload_n 0, 1) := by decide +kernel
theorem dX4_readNumbers_37 : decode cX4_readNumbers 37 = .ok (.getfield 9, 3) := by decide +kernel
theorem dX4_readNumbers_40 : decode cX4_readNumbers 40 = .ok (.aload_n 0, 1) := by decide +kernel
theorem dX4_readNumbers_41 : decode cX4_readNumbers 41 = .ok (.getfield 28, 3) := by decide +kernel
theorem dX4_readNumbers_44 : decode cX4_readNumbers 44 = .ok (.baload, 1) := by decide +kernel
theorem dX4_readNumbers_45 : decode cX4_readNumbers 45 = .ok (.invokestatic 49, 3) := by decide +kernel
theorem dX4_readNumbers_48 : decode cX4_readNumbers 48 = .ok (.ifCond .eq 36, 3) := by decide +kernel
theorem dX4_readNumbers_51 : decode cX4_readNumbers 51 = .ok (.bipush 10, 2) := by decide +kernel
theorem dX4_readNumbers_53 : decode cX4_readNumbers 53 = .ok (.iload 4, 2) := by decide +kernel
theorem dX4_readNumbers_55 : decode cX4_readNumbers 55 = .ok (.imul, 1) := by decide +kernel
theorem dX4_readNumbers_56 : decode cX4_readNumbers 56 = .ok (.aload_n 0, 1) := by decide +kernel
theorem dX4_readNumbers_57 : decode cX4_readNumbers 57 = .ok (.getfield 9, 3) := by decide +kernel
theorem dX4_readNumbers_60 : decode cX4_readNumbers 60 = .ok (.aload_n 0, 1) := by decide +kernel
theorem dX4_readNumbers_61 : decode cX4_readNumbers 61 = .ok (.getfield 28, 3) := by decide +kernel
theorem dX4_readNumbers_64 : decode cX4_readNumbers 64 = .ok (.baload, 1) := by decide +kernel
theorem dX4_readNumbers_65 : decode cX4_readNumbers 65 = .ok (.iadd, 1) := by decide +kernel
theorem dX4_readNumbers_66 : decode cX4_readNumbers 66 = .ok (.bipush 48, 2) := by decide +kernel
theorem dX4_readNumbers_68 : decode cX4_readNumbers 68 = .ok (.isub, 1) := by decide +kernel
theorem dX4_readNumbers_69 : decode cX4_readNumbers 69 = .ok (.istore 4, 2) := by decide +kernel
theorem dX4_readNumbers_71 : decode cX4_readNumbers 71 = .ok (.aload_n 0, 1) := by decide +kernel
theorem dX4_readNumbers_72 : decode cX4_readNumbers 72 = .ok (.dup, 1) := by decide +kernel
theorem dX4_readNumbers_73 : decode cX4_readNumbers 73 = .ok (.getfield 28, 3) := by decide +kernel
theorem dX4_readNumbers_76 : decode cX4_readNumbers 76 = .ok (.iconst 1, 1) := by decide +kernel
theorem dX4_readNumbers_77 : decode cX4_readNumbers 77 = .ok (.iadd, 1) := by decide +kernel
theorem dX4_readNumbers_78 : decode cX4_readNumbers 78 = .ok (.putfield 28, 3) := by decide +kernel
theorem dX4_readNumbers_81 : decode cX4_readNumbers 81 = .ok (.goto (-66), 3) := by decide +kernel
theorem dX4_readNumbers_84 : decode cX4_readNumbers 84 = .ok (.iload_n 2, 1) := by decide +kernel
theorem dX4_readNumbers_85 : decode cX4_readNumbers 85 = .ok (.iload_n 1, 1) := by decide +kernel
theorem dX4_readNumbers_86 : decode cX4_readNumbers 86 = .ok (.iconst 1, 1) := by decide +kernel
theorem dX4_readNumbers_87 : decode cX4_readNumbers 87 = .ok (.isub, 1) := by decide +kernel
theorem dX4_readNumbers_88 : decode cX4_readNumbers 88 = .ok (.if_icmp .ne 8, 3) := by decide +kernel
theorem dX4_readNumbers_91 : decode cX4_readNumbers 91 = .ok (.bipush 59, 2) := by decide +kernel
theorem dX4_readNumbers_93 : decode cX4_readNumbers 93 = .ok (.goto 5, 3) := by decide +kernel
theorem dX4_readNumbers_96 : decode cX4_readNumbers 96 = .ok (.bipush 44, 2) := by decide +kernel
theorem dX4_readNumbers_98 : decode cX4_readNumbers 98 = .ok (.istore 5, 2) := by decide +kernel
theorem dX4_readNumbers_100 : decode cX4_readNumbers 100 = .ok (.aload_n 0, 1) := by decide +kernel
theorem dX4_readNumbers_101 : decode cX4_readNumbers 101 = .ok (.getfield 28, 3) := by decide +kernel
theorem dX4_readNumbers_104 : decode cX4_readNumbers 104 = .ok (.iload_n 3, 1) := by decide +kernel
theorem dX4_readNumbers_105 : decode cX4_readNumbers 105 = .ok (.if_icmp .eq 28, 3) := by decide +kernel
theorem dX4_readNumbers_108 : decode cX4_readNumbers 108 = .ok (.aload_n 0, 1) := by decide +kernel
theorem dX4_readNumbers_109 : decode cX4_readNumbers 109 = .ok (.getfield 28, 3) := by decide +kernel
theorem dX4_readNumbers_112 : decode cX4_readNumbers 112 = .ok (.aload_n 0, 1) := by decide +kernel
theorem dX4_readNumbers_113 : decode cX4_readNumbers 113 = .ok (.getfield 19, 3) := by decide +kernel
theorem dX4_readNumbers_116 : decode cX4_readNumbers 116 = .ok (.if_icmp .ge 17, 3) := by decide +kernel
theorem dX4_readNumbers_119 : decode cX4_readNumbers 119 = .ok (.aload_n 0, 1) := by decide +kernel
theorem dX4_readNumbers_120 : decode cX4_readNumbers 120 = .ok (.getfield 9, 3) := by decide +kernel
theorem dX4_readNumbers_123 : decode cX4_readNumbers 123 = .ok (.aload_n 0, 1) := by decide +kernel
theorem dX4_readNumbers_124 : decode cX4_readNumbers 124 = .ok (.getfield 28, 3) := by decide +kernel
theorem dX4_readNumbers_127 : decode cX4_readNumbers 127 = .ok (.baload, 1) := by decide +kernel
theorem dX4_readNumbers_128 : decode cX4_readNumbers 128 = .ok (.iload 5, 2) := by decide +kernel
theorem dX4_readNumbers_130 : decode cX4_readNumbers 130 = .ok (.if_icmp .eq 5, 3) := by decide +kernel
theorem dX4_readNumbers_133 : decode cX4_readNumbers 133 = .ok (.iconst 0, 1) := by decide +kernel
theorem dX4_readNumbers_134 : decode cX4_readNumbers 134 = .ok (.ireturn, 1) := by decide +kernel
theorem dX4_readNumbers_135 : decode cX4_readNumbers 135 = .ok (.aload_n 0, 1) := by decide +kernel
theorem dX4_readNumbers_136 : decode cX4_readNumbers 136 = .ok (.dup, 1) := by decide +kernel
theorem dX4_readNumbers_137 : decode cX4_readNumbers 137 = .ok (.getfield 28, 3) := by decide +kernel
theorem dX4_readNumbers_140 : decode cX4_readNumbers 140 = .ok (.iconst 1, 1) := by decide +kernel
theorem dX4_readNumbers_141 : decode cX4_readNumbers 141 = .ok (.iadd, 1) := by decide +kernel
theorem dX4_readNumbers_142 : decode cX4_readNumbers 142 = .ok (.putfield 28, 3) := by decide +kernel
theorem dX4_readNumbers_145 : decode cX4_readNumbers 145 = .ok (.aload_n 0, 1) := by decide +kernel
theorem dX4_readNumbers_146 : decode cX4_readNumbers 146 = .ok (.getfield 15, 3) := by decide +kernel
theorem dX4_readNumbers_149 : decode cX4_readNumbers 149 = .ok (.iload_n 2, 1) := by decide +kernel
theorem dX4_readNumbers_150 : decode cX4_readNumbers 150 = .ok (.iload 4, 2) := by decide +kernel
theorem dX4_readNumbers_152 : decode cX4_readNumbers 152 = .ok (.iastore, 1) := by decide +kernel
theorem dX4_readNumbers_153 : decode cX4_readNumbers 153 = .ok (.iinc 2 1, 3) := by decide +kernel
theorem dX4_readNumbers_156 : decode cX4_readNumbers 156 = .ok (.goto (-154), 3) := by decide +kernel
theorem dX4_readNumbers_159 : decode cX4_readNumbers 159 = .ok (.iconst 1, 1) := by decide +kernel
theorem dX4_readNumbers_160 : decode cX4_readNumbers 160 = .ok (.ireturn, 1) := by decide +kernel
theorem dX4_isFigure_0 : decode cX4_isFigure 0 = .ok (.iload_n 0, 1) := by decide +kernel
theorem dX4_isFigure_1 : decode cX4_isFigure 1 = .ok (.bipush 48, 2) := by decide +kernel
theorem dX4_isFigure_3 : decode cX4_isFigure 3 = .ok (.if_icmp .lt 13, 3) := by decide +kernel
theorem dX4_isFigure_6 : decode cX4_isFigure 6 = .ok (.iload_n 0, 1) := by decide +kernel
theorem dX4_isFigure_7 : decode cX4_isFigure 7 = .ok (.bipush 57, 2) := by decide +kernel
theorem dX4_isFigure_9 : decode cX4_isFigure 9 = .ok (.if_icmp .gt 7, 3) := by decide +kernel
theorem dX4_isFigure_12 : decode cX4_isFigure 12 = .ok (.iconst 1, 1) := by decide +kernel
theorem dX4_isFigure_13 : decode cX4_isFigure 13 = .ok (.goto 4, 3) := by decide +kernel
theorem dX4_isFigure_16 : decode cX4_isFigure 16 = .ok (.iconst 0, 1) := by decide +kernel
theorem dX4_isFigure_17 : decode cX4_isFigure 17 = .ok (.ireturn, 1) := by decide +kernel
theorem dX5_init_0 : decode cX5_init 0 = .ok (.aload_n 0, 1) := by decide +kernel
theorem dX5_init_1 : decode cX5_init 1 = .ok (.invokespecial 3, 3) := by decide +kernel
theorem dX5_init_4 : decode cX5_init 4 = .ok (.aload_n 0, 1) := by decide +kernel
theorem dX5_init_5 : decode cX5_init 5 = .ok (.bipush 20, 2) := by decide +kernel
theorem dX5_init_7 : decode cX5_init 7 = .ok (.newarray .int, 2) := by decide +kernel
theorem dX5_init_9 : decode cX5_init 9 = .ok (.putfield 9, 3) := by decide +kernel
theorem dX5_init_12 : decode cX5_init 12 = .ok (.aload_n 0, 1) := by decide +kernel
theorem dX5_init_13 : decode cX5_init 13 = .ok (.bipush 20, 2) := by decide +kernel
theorem dX5_init_15 : decode cX5_init 15 = .ok (.newarray .int, 2) := by decide +kernel
theorem dX5_init_17 : decode cX5_init 17 = .ok (.putfield 15, 3) := by decide +kernel
theorem dX5_init_20 : decode cX5_init 20 = .ok (.aload_n 0, 1) := by decide +kernel
theorem dX5_init_21 : decode cX5_init 21 = .ok (.bipush 20, 2) := by decide +kernel
theorem dX5_init_23 : decode cX5_init 23 = .ok (.newarray .int, 2) := by decide +kernel
theorem dX5_init_25 : decode cX5_init 25 = .ok (.putfield 18, 3) := by decide +kernel
theorem dX5_init_28 : decode cX5_init 28 = .ok (.aload_n 0, 1) := by decide +kernel
theorem dX5_init_29 : decode cX5_init 29 = .ok (.bipush 20, 2) := by decide +kernel
theorem dX5_init_31 : decode cX5_init 31 = .ok (.newarray .int, 2) := by decide +kernel
theorem dX5_init_33 : decode cX5_init 33 = .ok (.putfield 21, 3) := by decide +kernel
theorem dX5_init_36 : decode cX5_init 36 = .ok (.return_, 1) := by decide +kernel
theorem dX5_append_0 : decode cX5_append 0 = .ok (.aload_n 0, 1) := by decide +kernel
theorem dX5_append_1 : decode cX5_append 1 = .ok (.getfield 24, 3) := by decide +kernel
theorem dX5_append_4 : decode cX5_append 4 = .ok (.bipush 20, 2) := by decide +kernel
theorem dX5_append_6 : decode cX5_append 6 = .ok (.if_icmp .lt 6, 3) := by decide +kernel
theorem dX5_append_9 : decode cX5_append 9 = .ok (.bipush (-3), 2) := by decide +kernel
theorem dX5_append_11 : decode cX5_append 11 = .ok (.ireturn, 1) := by decide +kernel
theorem dX5_append_12 : decode cX5_append 12 = .ok (.aload_n 0, 1) := by decide +kernel
theorem dX5_append_13 : decode cX5_append 13 = .ok (.getfield 9, 3) := by decide +kernel
theorem dX5_append_16 : decode cX5_append 16 = .ok (.aload_n 0, 1) := by decide +kernel
theorem dX5_append_17 : decode cX5_append 17 = .ok (.getfield 24, 3) := by decide +kernel
theorem dX5_append_20 : decode cX5_append 20 = .ok (.iload_n 1, 1) := by decide +kernel
theorem dX5_append_21 : decode cX5_append 21 = .ok (.iastore, 1) := by decide +kernel
theorem dX5_append_22 : decode cX5_append 22 = .ok (.aload_n 0, 1) := by decide +kernel
theorem dX5_append_23 : decode cX5_append 23 = .ok (.getfield 15, 3) := by decide +kernel
theorem dX5_append_26 : decode cX5_append 26 = .ok (.aload_n 0, 1) := by decide +kernel
theorem dX5_append_27 : decode cX5_append 27 = .ok (.getfield 24, 3) := by decide +kernel
theorem dX5_append_30 : decode cX5_append 30 = .ok (.iload_n 2, 1) := by decide +kernel
theorem dX5_append_31 : decode cX5_append 31 = .ok (.iastore, 1) := by decide +kernel
theorem dX5_append_32 : decode cX5_append 32 = .ok (.aload_n 0, 1) := by decide +kernel
theorem dX5_append_33 : decode cX5_append 33 = .ok (.getfield 18, 3) := by decide +kernel
theorem dX5_append_36 : decode cX5_append 36 = .ok (.aload_n 0, 1) := by decide +kernel
theorem dX5_append_37 : decode cX5_append 37 = .ok (.getfield 24, 3) := by decide +kernel
theorem dX5_append_40 : decode cX5_append 40 = .ok (.iload_n 3, 1) := by decide +kernel
theorem dX5_append_41 : decode cX5_append 41 = .ok (.iastore, 1) := by decide +kernel
theorem dX5_append_42 : decode cX5_append 42 = .ok (.aload_n 0, 1) := by decide +kernel
theorem dX5_append_43 : decode cX5_append 43 = .ok (.dup, 1) := by decide +kernel
theorem dX5_append_44 : decode cX5_append 44 = .ok (.getfield 24, 3) := by decide +kernel
theorem dX5_append_47 : decode cX5_append 47 = .ok (.iconst 1, 1) := by decide +kernel
theorem dX5_append_48 : decode cX5_append 48 = .ok (.iadd, 1) := by decide +kernel
theorem dX5_append_49 : decode cX5_append 49 = .ok (.putfield 24, 3) := by decide +kernel
theorem dX5_append_52 : decode cX5_append 52 = .ok (.aload_n 0, 1) := by decide +kernel
theorem dX5_append_53 : decode cX5_append 53 = .ok (.getfield 24, 3) := by decide +kernel
theorem dX5_append_56 : decode cX5_append 56 = .ok (.ireturn, 1) := by decide +kernel
theorem dX5_allShownBy_0 : decode cX5_allShownBy 0 = .ok (.iconst 0, 1) := by decide +kernel
theorem dX5_allShownBy_1 : decode cX5_allShownBy 1 = .ok (.istore_n 2, 1) := by decide +kernel
theorem dX5_allShownBy_2 : decode cX5_allShownBy 2 = .ok (.iload_n 2, 1) := by decide +kernel
theorem dX5_allShownBy_3 : decode cX5_allShownBy 3 = .ok (.aload_n 0, 1) := by decide +kernel
theorem dX5_allShownBy_4 : decode cX5_allShownBy 4 = .ok (.getfield 24, 3) := by decide +kernel
theorem dX5_allShownBy_7 : decode cX5_allShownBy 7 = .ok (.if_icmp .ge 31, 3) := by decide +kernel
theorem dX5_allShownBy_10 : decode cX5_allShownBy 10 = .ok (.aload_n 0, 1) := by decide +kernel
theorem dX5_allShownBy_11 : decode cX5_allShownBy 11 = .ok (.getfield 21, 3) := by decide +kernel
theorem dX5_allShownBy_14 : decode cX5_allShownBy 14 = .ok (.iload_n 2, 1) := by decide +kernel
theorem dX5_allShownBy_15 : decode cX5_allShownBy 15 = .ok (.iaload, 1) := by decide +kernel
theorem dX5_allShownBy_16 : decode cX5_allShownBy 16 = .ok (.ifCond .eq 16, 3) := by decide +kernel
theorem dX5_allShownBy_19 : decode cX5_allShownBy 19 = .ok (.aload_n 0, 1) := by decide +kernel
theorem dX5_allShownBy_20 : decode cX5_allShownBy 20 = .ok (.getfield 21, 3) := by decide +kernel
theorem dX5_allShownBy_23 : decode cX5_allShownBy 23 = .ok (.iload_n 2, 1) := by decide +kernel
theorem dX5_allShownBy_24 : decode cX5_allShownBy 24 = .ok (.iaload, 1) := by decide +kernel
theorem dX5_allShownBy_25 : decode cX5_allShownBy 25 = .ok (.iload_n 1, 1) := by decide +kernel
theorem dX5_allShownBy_26 : decode cX5_allShownBy 26 = .ok (.iand, 1) := by decide +kernel
theorem dX5_allShownBy_27 : decode cX5_allShownBy 27 = .ok (.ifCond .ne 5, 3) := by decide +kernel
theorem dX5_allShownBy_30 : decode cX5_allShownBy 30 = .ok (.iconst 0, 1) := by decide +kernel
theorem dX5_allShownBy_31 : decode cX5_allShownBy 31 = .ok (.ireturn, 1) := by decide +kernel
theorem dX5_allShownBy_32 : decode cX5_allShownBy 32 = .ok (.iinc 2 1, 3) := by decide +kernel
theorem dX5_allShownBy_35 : decode cX5_allShownBy 35 = .ok (.goto (-33), 3) := by decide +kernel
theorem dX5_allShownBy_38 : decode cX5_allShownBy 38 = .ok (.iconst 1, 1) := by decide +kernel
theorem dX5_allShownBy_39 : decode cX5_allShownBy 39 = .ok (.ireturn, 1) := by decide +kernel
theorem dX6_init_0 : decode cX6_init 0 = .ok (.aload_n 0, 1) := by decide +kernel
theorem dX6_init_1 : decode cX6_init 1 = .ok (.invokespecial 3, 3) := by decide +kernel
theorem dX6_init_4 : decode cX6_init 4 = .ok (.aload_n 0, 1) := by decide +kernel
theorem dX6_init_5 : decode cX6_init 5 = .ok (.bipush 16, 2) := by decide +kernel
theorem dX6_init_7 : decode cX6_init 7 = .ok (.newarray .int, 2) := by decide +kernel
theorem dX6_init_9 : decode cX6_init 9 = .ok (.putfield 9, 3) := by decide +kernel
theorem dX6_init_12 : decode cX6_init 12 = .ok (.aload_n 0, 1) := by decide +kernel
theorem dX6_init_13 : decode cX6_init 13 = .ok (.bipush 16, 2) := by decide +kernel
theorem dX6_init_15 : decode cX6_init 15 = .ok (.newarray .int, 2) := by decide +kernel
theorem dX6_init_17 : decode cX6_init 17 = .ok (.putfield 15, 3) := by decide +kernel
theorem dX6_init_20 : decode cX6_init 20 = .ok (.aload_n 0, 1) := by decide +kernel
theorem dX6_init_21 : decode cX6_init 21 = .ok (.bipush 16, 2) := by decide +kernel
theorem dX6_init_23 : decode cX6_init 23 = .ok (.newarray .int, 2) := by decide +kernel
theorem dX6_init_25 : decode cX6_init 25 = .ok (.putfield 18, 3) := by decide +kernel
theorem dX6_init_28 : decode cX6_init 28 = .ok (.aload_n 0, 1) := by decide +kernel
theorem dX6_init_29 : decode cX6_init 29 = .ok (.bipush 64, 2) := by decide +kernel
theorem dX6_init_31 : decode cX6_init 31 = .ok (.newarray .int, 2) := by decide +kernel
theorem dX6_init_33 : decode cX6_init 33 = .ok (.putfield 21, 3) := by decide +kernel
theorem dX6_init_36 : decode cX6_init 36 = .ok (.aload_n 0, 1) := by decide +kernel
theorem dX6_init_37 : decode cX6_init 37 = .ok (.iconst 5, 1) := by decide +kernel
theorem dX6_init_38 : decode cX6_init 38 = .ok (.newarray .int, 2) := by decide +kernel
theorem dX6_init_40 : decode cX6_init 40 = .ok (.putfield 24, 3) := by decide +kernel
theorem dX6_init_43 : decode cX6_init 43 = .ok (.aload_n 0, 1) := by decide +kernel
theorem dX6_init_44 : decode cX6_init 44 = .ok (.sipush 289, 3) := by decide +kernel
theorem dX6_init_47 : decode cX6_init 47 = .ok (.newarray .int, 2) := by decide +kernel
theorem dX6_init_49 : decode cX6_init 49 = .ok (.putfield 27, 3) := by decide +kernel
theorem dX6_init_52 : decode cX6_init 52 = .ok (.aload_n 0, 1) := by decide +kernel
theorem dX6_init_53 : decode cX6_init 53 = .ok (.sipush 289, 3) := by decide +kernel
theorem dX6_init_56 : decode cX6_init 56 = .ok (.newarray .int, 2) := by decide +kernel
theorem dX6_init_58 : decode cX6_init 58 = .ok (.putfield 30, 3) := by decide +kernel
theorem dX6_init_61 : decode cX6_init 61 = .ok (.aload_n 0, 1) := by decide +kernel
theorem dX6_init_62 : decode cX6_init 62 = .ok (.invokevirtual 33, 3) := by decide +kernel
theorem dX6_init_65 : decode cX6_init 65 = .ok (.return_, 1) := by decide +kernel
theorem dX6_forget_0 : decode cX6_forget 0 = .ok (.aload_n 0, 1) := by decide +kernel
theorem dX6_forget_1 : decode cX6_forget 1 = .ok (.iconst 0, 1) := by decide +kernel
theorem dX6_forget_2 : decode cX6_forget 2 = .ok (.putfield 36, 3) := by decide +kernel
theorem dX6_forget_5 : decode cX6_forget 5 = .ok (.iconst 0, 1) := by decide +kernel
theorem dX6_forget_6 : decode cX6_forget 6 = .ok (.istore_n 1, 1) := by decide +kernel
theorem dX6_forget_7 : decode cX6_forget 7 = .ok (.iload_n 1, 1) := by decide +kernel
theorem dX6_forget_8 : decode cX6_forget 8 = .ok (.bipush 64, 2) := by decide +kernel
theorem dX6_forget_10 : decode cX6_forget 10 = .ok (.if_icmp .ge 16, 3) := by decide +kernel
theorem dX6_forget_13 : decode cX6_forget 13 = .ok (.aload_n 0, 1) := by decide +kernel
theorem dX6_forget_14 : decode cX6_forget 14 = .ok (.getfield 21, 3) := by decide +kernel
theorem dX6_forget_17 : decode cX6_forget 17 = .ok (.iload_n 1, 1) := by decide +kernel
theorem dX6_forget_18 : decode cX6_forget 18 = .ok (.iload_n 1, 1) := by decide +kernel
theorem dX6_forget_19 : decode cX6_forget 19 = .ok (.iastore, 1) := by decide +kernel
theorem dX6_forget_20 : decode cX6_forget 20 = .ok (.iinc 1 1, 3) := by decide +kernel
theorem dX6_forget_23 : decode cX6_forget 23 = .ok (.goto (-16), 3) := by decide +kernel
theorem dX6_forget_26 : decode cX6_forget 26 = .ok (.iconst 0, 1) := by decide +kernel
theorem dX6_forget_27 : decode cX6_forget 27 = .ok (.istore_n 1, 1) := by decide +kernel
theorem dX6_forget_28 : decode cX6_forget 28 = .ok (.iload_n 1, 1) := by decide +kernel
theorem dX6_forget_29 : decode cX6_forget 29 = .ok (.iconst 5, 1) := by decide +kernel
theorem dX6_forget_30 : decode cX6_forget 30 = .ok (.if_icmp .ge 16, 3) := by decide +kernel
theorem dX6_forget_33 : decode cX6_forget 33 = .ok (.aload_n 0, 1) := by decide +kernel
theorem dX6_forget_34 : decode cX6_forget 34 = .ok (.getfield 24, 3) := by decide +kernel
theorem dX6_forget_37 : decode cX6_forget 37 = .ok (.iload_n 1, 1) := by decide +kernel
theorem dX6_forget_38 : decode cX6_forget 38 = .ok (.iconst 1, 1) := by decide +kernel
theorem dX6_forget_39 : decode cX6_forget 39 = .ok (.iastore, 1) := by decide +kernel
theorem dX6_forget_40 : decode cX6_forget 40 = .ok (.iinc 1 1, 3) := by decide +kernel
theorem dX6_forget_43 : decode cX6_forget 43 = .ok (.goto (-15), 3) := by decide +kernel
theorem dX6_forget_46 : decode cX6_forget 46 = .ok (.return_, 1) := by decide +kernel
theorem dX6_learnWord_0 : decode cX6_learnWord 0 = .ok (.aload_n 0, 1) := by decide +kernel
theorem dX6_learnWord_1 : decode cX6_learnWord 1 = .ok (.getfield 36, 3) := by decide +kernel
theorem dX6_learnWord_4 : decode cX6_learnWord 4 = .ok (.bipush 16, 2) := by decide +kernel
theorem dX6_learnWord_6 : decode cX6_learnWord 6 = .ok (.if_icmp .ge 27, 3) := by decide +kernel
theorem dX6_learnWord_9 : decode cX6_learnWord 9 = .ok (.aload_n 1, 1) := by decide +kernel
theorem dX6_learnWord_10 : decode cX6_learnWord 10 = .ok (.iconst 0, 1) := by decide +kernel
theorem dX6_learnWord_11 : decode cX6_learnWord 11 = .ok (.iaload, 1) := by decide +kernel
theorem dX6_learnWord_12 : decode cX6_learnWord 12 = .ok (.bipush 8, 2) := by decide +kernel
theorem dX6_learnWord_14 : decode cX6_learnWord 14 = .ok (.if_icmp .ge 19, 3) := by decide +kernel
theorem dX6_learnWord_17 : decode cX6_learnWord 17 = .ok (.aload_n 1, 1) := by decide +kernel
theorem dX6_learnWord_18 : decode cX6_learnWord 18 = .ok (.iconst 1, 1) := by decide +kernel
theorem dX6_learnWord_19 : decode cX6_learnWord 19 = .ok (.iaload, 1) := by decide +kernel
theorem dX6_learnWord_20 : decode cX6_learnWord 20 = .ok (.bipush 16, 2) := by decide +kernel
theorem dX6_learnWord_22 : decode cX6_learnWord 22 = .ok (.if_icmp .ge 11, 3) := by decide +kernel
theorem dX6_learnWord_25 : decode cX6_learnWord 25 = .ok (.aload_n 1, 1) := by decide +kernel
theorem dX6_learnWord_26 : decode cX6_learnWord 26 = .ok (.iconst 2, 1) := by decide +kernel
theorem dX6_learnWord_27 : decode cX6_learnWord 27 = .ok (.iaload, 1) := by decide +kernel
theorem dX6_learnWord_28 : decode cX6_learnWord 28 = .ok (.bipush 8, 2) := by decide +kernel
theorem dX6_learnWord_30 : decode cX6_learnWord 30 = .ok (.if_icmp .lt 5, 3) := by decide +kernel
theorem dX6_learnWord_33 : decode cX6_learnWord 33 = .ok (.iconst 0, 1) := by decide +kernel
theorem dX6_learnWord_34 : decode cX6_learnWord 34 = .ok (.ireturn, 1) := by decide +kernel
theorem dX6_learnWord_35 : decode cX6_learnWord 35 = .ok (.iconst 0, 1) := by decide +kernel
theorem dX6_learnWord_36 : decode cX6_learnWord 36 = .ok (.istore_n 2, 1) := by decide +kernel
theorem dX6_learnWord_37 : decode cX6_learnWord 37 = .ok (.iload_n 2, 1) := by decide +kernel
theorem dX6_learnWord_38 : decode cX6_learnWord 38 = .ok (.aload_n 0, 1) := by decide +kernel
theorem dX6_learnWord_39 : decode cX6_learnWord 39 = .ok (.getfield 36, 3) := by decide +kernel
theorem dX6_learnWord_42 : decode cX6_learnWord 42 = .ok (.if_icmp .ge 47, 3) := by decide +kernel
theorem dX6_learnWord_45 : decode cX6_learnWord 45 = .ok (.aload_n 0, 1) := by decide +kernel
theorem dX6_learnWord_46 : decode cX6_learnWord 46 = .ok (.getfield 9, 3) := by decide +kernel
theorem dX6_learnWord_49 : decode cX6_learnWord 49 = .ok (.iload_n 2, 1) := by decide +kernel
theorem dX6_learnWord_50 : decode cX6_learnWord 50 = .ok (.iaload, 1) := by decide +kernel
theorem dX6_learnWord_51 : decode cX6_learnWord 51 = .ok (.aload_n 1, 1) := by decide +kernel
theorem dX6_learnWord_52 : decode cX6_learnWord 52 = .ok (.iconst 0, 1) := by decide +kernel
theorem dX6_learnWord_53 : decode cX6_learnWord 53 = .ok (.iaload, 1) := by decide +kernel
theorem dX6_learnWord_54 : decode cX6_learnWord 54 = .ok (.if_icmp .ne 29, 3) := by decide +kernel
theorem dX6_learnWord_57 : decode cX6_learnWord 57 = .ok (.aload_n 0, 1) := by decide +kernel
theorem dX6_learnWord_58 : decode cX6_learnWord 58 = .ok (.getfield 15, 3) := by decide +kernel
theorem dX6_learnWord_61 : decode cX6_learnWord 61 = .ok (.iload_n 2, 1) := by decide +kernel
theorem dX6_learnWord_62 : decode cX6_learnWord 62 = .ok (.iaload, 1) := by decide +kernel
theorem dX6_learnWord_63 : decode cX6_learnWord 63 = .ok (.aload_n 1, 1) := by decide +kernel
theorem dX6_learnWord_64 : decode cX6_learnWord 64 = .ok (.iconst 1, 1) := by decide +kernel
theorem dX6_learnWord_65 : decode cX6_learnWord 65 = .ok (.iaload, 1) := by decide +kernel
theorem dX6_learnWord_66 : decode cX6_learnWord 66 = .ok (.if_icmp .ne 17, 3) := by decide +kernel
theorem dX6_learnWord_69 : decode cX6_learnWord 69 = .ok (.aload_n 0, 1) := by decide +kernel
theorem dX6_learnWord_70 : decode cX6_learnWord 70 = .ok (.getfield 18, 3) := by decide +kernel
theorem dX6_learnWord_73 : decode cX6_learnWord 73 = .ok (.iload_n 2, 1) := by decide +kernel
theorem dX6_learnWord_74 : decode cX6_learnWord 74 = .ok (.iaload, 1) := by decide +kernel
theorem dX6_learnWord_75 : decode cX6_learnWord 75 = .ok (.aload_n 1, 1) := by decide +kernel
theorem dX6_learnWord_76 : decode cX6_learnWord 76 = .ok (.iconst 2, 1) := by decide +kernel
theorem dX6_learnWord_77 : decode cX6_learnWord 77 = .ok (.iaload, 1) := by decide +kernel
theorem dX6_learnWord_78 : decode cX6_learnWord 78 = .ok (.if_icmp .ne 5, 3) := by decide +kernel
theorem dX6_learnWord_81 : decode cX6_learnWord 81 = .ok (.iconst 0, 1) := by decide +kernel
theorem dX6_learnWord_82 : decode cX6_learnWord 82 = .ok (.ireturn, 1) := by decide +kernel
theorem dX6_learnWord_83 : decode cX6_learnWord 83 = .ok (.iinc 2 1, 3) := by decide +kernel
theorem dX6_learnWord_86 : decode cX6_learnWord 86 = .ok (.goto (-49), 3) := by decide +kernel
theorem dX6_learnWord_89 : decode cX6_learnWord 89 = .ok (.aload_n 0, 1) := by decide +kernel
theorem dX6_learnWord_90 : decode cX6_learnWord 90 = .ok (.getfield 9, 3) := by decide +kernel
theorem dX6_learnWord_93 : decode cX6_learnWord 93 = .ok (.aload_n 0, 1) := by decide +kernel
theorem dX6_learnWord_94 : decode cX6_learnWord 94 = .ok (.getfield 36, 3) := by decide +kernel
theorem dX6_learnWord_97 : decode cX6_learnWord 97 = .ok (.aload_n 1, 1) := by decide +kernel
theorem dX6_learnWord_98 : decode cX6_learnWord 98 = .ok (.iconst 0, 1) := by decide +kernel
theorem dX6_learnWord_99 : decode cX6_learnWord 99 = .ok (.iaload, 1) := by decide +kernel
theorem dX6_learnWord_100 : decode cX6_learnWord 100 = .ok (.iastore, 1) := by decide +kernel
theorem dX6_learnWord_101 : decode cX6_learnWord 101 = .ok (.aload_n 0, 1) := by decide +kernel
theorem dX6_learnWord_102 : decode cX6_learnWord 102 = .ok (.getfield 15, 3) := by decide +kernel
theorem dX6_learnWord_105 : decode cX6_learnWord 105 = .ok (.aload_n 0, 1) := by decide +kernel
theorem dX6_learnWord_106 : decode cX6_learnWord 106 = .ok (.getfield 36, 3) := by decide +kernel
theorem dX6_learnWord_109 : decode cX6_learnWord 109 = .ok (.aload_n 1, 1) := by decide +kernel
theorem dX6_learnWord_110 : decode cX6_learnWord 110 = .ok (.iconst 1, 1) := by decide +kernel
theorem dX6_learnWord_111 : decode cX6_learnWord 111 = .ok (.iaload, 1) := by decide +kernel
theorem dX6_learnWord_112 : decode cX6_learnWord 112 = .ok (.iastore, 1) := by decide +kernel
theorem dX6_learnWord_113 : decode cX6_learnWord 113 = .ok (.aload_n 0, 1) := by decide +kernel
theorem dX6_learnWord_114 : decode cX6_learnWord 114 = .ok (.getfield 18, 3) := by decide +kernel
theorem dX6_learnWord_117 : decode cX6_learnWord 117 = .ok (.aload_n 0, 1) := by decide +kernel
theorem dX6_learnWord_118 : decode cX6_learnWord 118 = .ok (.getfield 36, 3) := by decide +kernel
theorem dX6_learnWord_121 : decode cX6_learnWord 121 = .ok (.aload_n 1, 1) := by decide +kernel
theorem dX6_learnWord_122 : decode cX6_learnWord 122 = .ok (.iconst 2, 1) := by decide +kernel
theorem dX6_learnWord_123 : decode cX6_learnWord 123 = .ok (.iaload, 1) := by decide +kernel
theorem dX6_learnWord_124 : decode cX6_learnWord 124 = .ok (.iastore, 1) := by decide +kernel
theorem dX6_learnWord_125 : decode cX6_learnWord 125 = .ok (.aload_n 0, 1) := by decide +kernel
theorem dX6_learnWord_126 : decode cX6_learnWord 126 = .ok (.dup, 1) := by decide +kernel
theorem dX6_learnWord_127 : decode cX6_learnWord 127 = .ok (.getfield 36, 3) := by decide +kernel
theorem dX6_learnWord_130 : decode cX6_learnWord 130 = .ok (.iconst 1, 1) := by decide +kernel
theorem dX6_learnWord_131 : decode cX6_learnWord 131 = .ok (.iadd, 1) := by decide +kernel
theorem dX6_learnWord_132 : decode cX6_learnWord 132 = .ok (.putfield 36, 3) := by decide +kernel
theorem dX6_learnWord_135 : decode cX6_learnWord 135 = .ok (.iconst 1, 1) := by decide +kernel
theorem dX6_learnWord_136 : decode cX6_learnWord 136 = .ok (.ireturn, 1) := by decide +kernel
theorem dX6_learnJoining_0 : decode cX6_learnJoining 0 = .ok (.iconst 0, 1) := by decide +kernel
theorem dX6_learnJoining_1 : decode cX6_learnJoining 1 = .ok (.istore_n 2, 1) := by decide +kernel
theorem dX6_learnJoining_2 : decode cX6_learnJoining 2 = .ok (.iload_n 2, 1) := by decide +kernel
theorem dX6_learnJoining_3 : decode cX6_learnJoining 3 = .ok (.iconst 4, 1) := by decide +kernel
theorem dX6_learnJoining_4 : decode cX6_learnJoining 4 = .ok (.if_icmp .ge 19, 3) := by decide +kernel
theorem dX6_learnJoining_7 : decode cX6_learnJoining 7 = .ok (.aload_n 1, 1) := by decide +kernel
theorem dX6_learnJoining_8 : decode cX6_learnJoining 8 = .ok (.iload_n 2, 1) := by decide +kernel
theorem dX6_learnJoining_9 : decode cX6_learnJoining 9 = .ok (.iaload, 1) := by decide +kernel
theorem dX6_learnJoining_10 : decode cX6_learnJoining 10 = .ok (.bipush 8, 2) := by decide +kernel
theorem dX6_learnJoining_12 : decode cX6_learnJoining 12 = .ok (.if_icmp .lt 5, 3) := by decide +kernel
theorem dX6_learnJoining_15 : decode cX6_learnJoining 15 = .ok (.iconst 0, 1) := by decide +kernel
theorem dX6_learnJoining_16 : decode cX6_learnJoining 16 = .ok (.ireturn, 1) := by decide +kernel
theorem dX6_learnJoining_17 : decode cX6_learnJoining 17 = .ok (.iinc 2 1, 3) := by decide +kernel
theorem dX6_learnJoining_20 : decode cX6_learnJoining 20 = .ok (.goto (-18), 3) := by decide +kernel
theorem dX6_learnJoining_23 : decode cX6_learnJoining 23 = .ok (.aload_n 0, 1) := by decide +kernel
theorem dX6_learnJoining_24 : decode cX6_learnJoining 24 = .ok (.getfield 21, 3) := by decide +kernel
theorem dX6_learnJoining_27 : decode cX6_learnJoining 27 = .ok (.bipush 8, 2) := by decide +kernel
theorem dX6_learnJoining_29 : decode cX6_learnJoining 29 = .ok (.aload_n 1, 1) := by decide +kernel
theorem dX6_learnJoining_30 : decode cX6_learnJoining 30 = .ok (.iconst 0, 1) := by decide +kernel
theorem dX6_learnJoining_31 : decode cX6_learnJoining 31 = .ok (.iaload, 1) := by decide +kernel
theorem dX6_learnJoining_32 : decode cX6_learnJoining 32 = .ok (.imul, 1) := by decide +kernel
theorem dX6_learnJoining_33 : decode cX6_learnJoining 33 = .ok (.aload_n 1, 1) := by decide +kernel
theorem dX6_learnJoining_34 : decode cX6_learnJoining 34 = .ok (.iconst 1, 1) := by decide +kernel
theorem dX6_learnJoining_35 : decode cX6_learnJoining 35 = .ok (.iaload, 1) := by decide +kernel
theorem dX6_learnJoining_36 : decode cX6_learnJoining 36 = .ok (.iadd, 1) := by decide +kernel
theorem dX6_learnJoining_37 : decode cX6_learnJoining 37 = .ok (.bipush 8, 2) := by decide +kernel
theorem dX6_learnJoining_39 : decode cX6_learnJoining 39 = .ok (.aload_n 1, 1) := by decide +kernel
theorem dX6_learnJoining_40 : decode cX6_learnJoining 40 = .ok (.iconst 2, 1) := by decide +kernel
theorem dX6_learnJoining_41 : decode cX6_learnJoining 41 = .ok (.iaload, 1) := by decide +kernel
theorem dX6_learnJoining_42 : decode cX6_learnJoining 42 = .ok (.imul, 1) := by decide +kernel
theorem dX6_learnJoining_43 : decode cX6_learnJoining 43 = .ok (.aload_n 1, 1) := by decide +kernel
theorem dX6_learnJoining_44 : decode cX6_learnJoining 44 = .ok (.iconst 3, 1) := by decide +kernel
theorem dX6_learnJoining_45 : decode cX6_learnJoining 45 = .ok (.iaload, 1) := by decide +kernel
theorem dX6_learnJoining_46 : decode cX6_learnJoining 46 = .ok (.iadd, 1) := by decide +kernel
theorem dX6_learnJoining_47 : decode cX6_learnJoining 47 = .ok (.iastore, 1) := by decide +kernel
theorem dX6_learnJoining_48 : decode cX6_learnJoining 48 = .ok (.iconst 1, 1) := by decide +kernel
theorem dX6_learnJoining_49 : decode cX6_learnJoining 49 = .ok (.ireturn, 1) := by decide +kernel
theorem dX6_learnHours_0 : decode cX6_learnHours 0 = .ok (.aload_n 1, 1) := by decide +kernel
theorem dX6_learnHours_1 : decode cX6_learnHours 1 = .ok (.iconst 0, 1) := by decide +kernel
theorem dX6_learnHours_2 : decode cX6_learnHours 2 = .ok (.iaload, 1) := by decide +kernel
theorem dX6_learnHours_3 : decode cX6_learnHours 3 = .ok (.iconst 5, 1) := by decide +kernel
theorem dX6_learnHours_4 : decode cX6_learnHours 4 = .ok (.if_icmp .lt 5, 3) := by decide +kernel
theorem dX6_learnHours_7 : decode cX6_learnHours 7 = .ok (.iconst 0, 1) := by decide +kernel
theorem dX6_learnHours_8 : decode cX6_learnHours 8 = .ok (.ireturn, 1) := by decide +kernel
theorem dX6_learnHours_9 : decode cX6_learnHours 9 = .ok (.aload_n 0, 1) := by decide +kernel
theorem dX6_learnHours_10 : decode cX6_learnHours 10 = .ok (.getfield 24, 3) := by decide +kernel
theorem dX6_learnHours_13 : decode cX6_learnHours 13 = .ok (.aload_n 1, 1) := by decide +kernel
theorem dX6_learnHours_14 : decode cX6_learnHours 14 = .ok (.iconst 0, 1) := by decide +kernel
theorem dX6_learnHours_15 : decode cX6_learnHours 15 = .ok (.iaload, 1) := by decide +kernel
theorem dX6_learnHours_16 : decode cX6_learnHours 16 = .ok (.aload_n 1, 1) := by decide +kernel
theorem dX6_learnHours_17 : decode cX6_learnHours 17 = .ok (.iconst 1, 1) := by decide +kernel
theorem dX6_learnHours_18 : decode cX6_learnHours 18 = .ok (.iaload, 1) := by decide +kernel
theorem dX6_learnHours_19 : decode cX6_learnHours 19 = .ok (.iastore, 1) := by decide +kernel
theorem dX6_learnHours_20 : decode cX6_learnHours 20 = .ok (.iconst 1, 1) := by decide +kernel
theorem dX6_learnHours_21 : decode cX6_learnHours 21 = .ok (.ireturn, 1) := by decide +kernel
theorem dX6_joinAll_0 : decode cX6_joinAll 0 = .ok (.iconst 0, 1) := by decide +kernel
theorem dX6_joinAll_1 : decode cX6_joinAll 1 = .ok (.istore_n 1, 1) := by decide +kernel
theorem dX6_joinAll_2 : decode cX6_joinAll 2 = .ok (.iload_n 1, 1) := by decide +kernel
theorem dX6_joinAll_3 : decode cX6_joinAll 3 = .ok (.aload_n 0, 1) := by decide +kernel
theorem dX6_joinAll_4 : decode cX6_joinAll 4 = .ok (.getfield 36, 3) := by decide +kernel
theorem dX6_joinAll_7 : decode cX6_joinAll 7 = .ok (.if_icmp .ge 161, 3) := by decide +kernel
theorem dX6_joinAll_10 : decode cX6_joinAll 10 = .ok (.aload_n 0, 1) := by decide +kernel
theorem dX6_joinAll_11 : decode cX6_joinAll 11 = .ok (.getfield 27, 3) := by decide +kernel
theorem dX6_joinAll_14 : decode cX6_joinAll 14 = .ok (.sipush 272, 3) := by decide +kernel
theorem dX6_joinAll_17 : decode cX6_joinAll 17 = .ok (.iload_n 1, 1) := by decide +kernel
theorem dX6_joinAll_18 : decode cX6_joinAll 18 = .ok (.iadd, 1) := by decide +kernel
theorem dX6_joinAll_19 : decode cX6_joinAll 19 = .ok (.sipush 128, 3) := by decide +kernel
theorem dX6_joinAll_22 : decode cX6_joinAll 22 = .ok (.aload_n 0, 1) := by decide +kernel
theorem dX6_joinAll_23 : decode cX6_joinAll 23 = .ok (.getfield 9, 3) := by decide +kernel
theorem dX6_joinAll_26 : decode cX6_joinAll 26 = .ok (.iload_n 1, 1) := by decide +kernel
theorem dX6_joinAll_27 : decode cX6_joinAll 27 = .ok (.iaload, 1) := by decide +kernel
theorem dX6_joinAll_28 : decode cX6_joinAll 28 = .ok (.imul, 1) := by decide +kernel
theorem dX6_joinAll_29 : decode cX6_joinAll 29 = .ok (.bipush 8, 2) := by decide +kernel
theorem dX6_joinAll_31 : decode cX6_joinAll 31 = .ok (.aload_n 0, 1) := by decide +kernel
theorem dX6_joinAll_32 : decode cX6_joinAll 32 = .ok (.getfield 15, 3) := by decide +kernel
theorem dX6_joinAll_35 : decode cX6_joinAll 35 = .ok (.iload_n 1, 1) := by decide +kernel
theorem dX6_joinAll_36 : decode cX6_joinAll 36 = .ok (.iaload, 1) := by decide +kernel
theorem dX6_joinAll_37 : decode cX6_joinAll 37 = .ok (.imul, 1) := by decide +kernel
theorem dX6_joinAll_38 : decode cX6_joinAll 38 = .ok (.iadd, 1) := by decide +kernel
theorem dX6_joinAll_39 : decode cX6_joinAll 39 = .ok (.iastore, 1) := by decide +kernel
theorem dX6_joinAll_40 : decode cX6_joinAll 40 = .ok (.aload_n 0, 1) := by decide +kernel
theorem dX6_joinAll_41 : decode cX6_joinAll 41 = .ok (.getfield 30, 3) := by decide +kernel
theorem dX6_joinAll_44 : decode cX6_joinAll 44 = .ok (.sipush 272, 3) := by decide +kernel
theorem dX6_joinAll_47 : decode cX6_joinAll 47 = .ok (.iload_n 1, 1) := by decide +kernel
theorem dX6_joinAll_48 : decode cX6_joinAll 48 = .ok (.iadd, 1) := by decide +kernel
theorem dX6_joinAll_49 : decode cX6_joinAll 49 = .ok (.aload_n 0, 1) := by decide +kernel
theorem dX6_joinAll_50 : decode cX6_joinAll 50 = .ok (.getfield 18, 3) := by decide +kernel
theorem dX6_joinAll_53 : decode cX6_joinAll 53 = .ok (.iload_n 1, 1) := by decide +kernel
theorem dX6_joinAll_54 : decode cX6_joinAll 54 = .ok (.iaload, 1) := by decide +kernel
theorem dX6_joinAll_55 : decode cX6_joinAll 55 = .ok (.iastore, 1) := by decide +kernel
theorem dX6_joinAll_56 : decode cX6_joinAll 56 = .ok (.iconst 0, 1) := by decide +kernel
theorem dX6_joinAll_57 : decode cX6_joinAll 57 = .ok (.istore_n 2, 1) := by decide +kernel
theorem dX6_joinAll_58 : decode cX6_joinAll 58 = .ok (.iload_n 2, 1) := by decide +kernel
theorem dX6_joinAll_59 : decode cX6_joinAll 59 = .ok (.aload_n 0, 1) := by decide +kernel
theorem dX6_joinAll_60 : decode cX6_joinAll 60 = .ok (.getfield 36, 3) := by decide +kernel
theorem dX6_joinAll_63 : decode cX6_joinAll 63 = .ok (.if_icmp .ge 99, 3) := by decide +kernel
theorem dX6_joinAll_66 : decode cX6_joinAll 66 = .ok (.aload_n 0, 1) := by decide +kernel
theorem dX6_joinAll_67 : decode cX6_joinAll 67 = .ok (.getfield 21, 3) := by decide +kernel
theorem dX6_joinAll_70 : decode cX6_joinAll 70 = .ok (.bipush 8, 2) := by decide +kernel
theorem dX6_joinAll_72 : decode cX6_joinAll 72 = .ok (.aload_n 0, 1) := by decide +kernel
theorem dX6_joinAll_73 : decode cX6_joinAll 73 = .ok (.getfield 18, 3) := by decide +kernel
theorem dX6_joinAll_76 : decode cX6_joinAll 76 = .ok (.iload_n 2, 1) := by decide +kernel
theorem dX6_joinAll_77 : decode cX6_joinAll 77 = .ok (.iaload, 1) := by decide +kernel
theorem dX6_joinAll_78 : decode cX6_joinAll 78 = .ok (.imul, 1) := by decide +kernel
theorem dX6_joinAll_79 : decode cX6_joinAll 79 = .ok (.aload_n 0, 1) := by decide +kernel
theorem dX6_joinAll_80 : decode cX6_joinAll 80 = .ok (.getfield 9, 3) := by decide +kernel
theorem dX6_joinAll_83 : decode cX6_joinAll 83 = .ok (.iload_n 1, 1) := by decide +kernel
theorem dX6_joinAll_84 : decode cX6_joinAll 84 = .ok (.iaload, 1) := by decide +kernel
theorem dX6_joinAll_85 : decode cX6_joinAll 85 = .ok (.iadd, 1) := by decide +kernel
theorem dX6_joinAll_86 : decode cX6_joinAll 86 = .ok (.iaload, 1) := by decide +kernel
theorem dX6_joinAll_87 : decode cX6_joinAll 87 = .ok (.istore_n 3, 1) := by decide +kernel
theorem dX6_joinAll_88 : decode cX6_joinAll 88 = .ok (.aload_n 0, 1) := by decide +kernel
theorem dX6_joinAll_89 : decode cX6_joinAll 89 = .ok (.getfield 21, 3) := by decide +kernel
theorem dX6_joinAll_92 : decode cX6_joinAll 92 = .ok (.bipush 8, 2) := by decide +kernel
theorem dX6_joinAll_94 : decode cX6_joinAll 94 = .ok (.aload_n 0, 1) := by decide +kernel
theorem dX6_joinAll_95 : decode cX6_joinAll 95 = .ok (.getfield 18, 3) := by decide +kernel
theorem dX6_joinAll_98 : decode cX6_joinAll 98 = .ok (.iload_n 1, 1) := by decide +kernel
theorem dX6_joinAll_99 : decode cX6_joinAll 99 = .ok (.iaload, 1) := by decide +kernel
theorem dX6_joinAll_100 : decode cX6_joinAll 100 = .ok (.imul, 1) := by decide +kernel
theorem dX6_joinAll_101 : decode cX6_joinAll 101 = .ok (.aload_n 0, 1) := by decide +kernel
theorem dX6_joinAll_102 : decode cX6_joinAll 102 = .ok (.getfield 9, 3) := by decide +kernel
theorem dX6_joinAll_105 : decode cX6_joinAll 105 = .ok (.iload_n 2, 1) := by decide +kernel
theorem dX6_joinAll_106 : decode cX6_joinAll 106 = .ok (.iaload, 1) := by decide +kernel
theorem dX6_joinAll_107 : decode cX6_joinAll 107 = .ok (.iadd, 1) := by decide +kernel
theorem dX6_joinAll_108 : decode cX6_joinAll 108 = .ok (.iaload, 1) := by decide +kernel
theorem dX6_joinAll_109 : decode cX6_joinAll 109 = .ok (.istore 4, 2) := by decide +kernel
theorem dX6_joinAll_111 : decode cX6_joinAll 111 = .ok (.aload_n 0, 1) := by decide +kernel
theorem dX6_joinAll_112 : decode cX6_joinAll 112 = .ok (.getfield 27, 3) := by decide +kernel
theorem dX6_joinAll_115 : decode cX6_joinAll 115 = .ok (.bipush 17, 2) := by decide +kernel
theorem dX6_joinAll_117 : decode cX6_joinAll 117 = .ok (.iload_n 2, 1) := by decide +kernel
theorem dX6_joinAll_118 : decode cX6_joinAll 118 = .ok (.imul, 1) := by decide +kernel
theorem dX6_joinAll_119 : decode cX6_joinAll 119 = .ok (.iload_n 1, 1) := by decide +kernel
theorem dX6_joinAll_120 : decode cX6_joinAll 120 = .ok (.iadd, 1) := by decide +kernel
theorem dX6_joinAll_121 : decode cX6_joinAll 121 = .ok (.sipush 128, 3) := by decide +kernel
theorem dX6_joinAll_124 : decode cX6_joinAll 124 = .ok (.iload_n 3, 1) := by decide +kernel
theorem dX6_joinAll_125 : decode cX6_joinAll 125 = .ok (.bipush 8, 2) := by decide +kernel
theorem dX6_joinAll_127 : decode cX6_joinAll 127 = .ok (.irem, 1) := by decide +kernel
theorem dX6_joinAll_128 : decode cX6_joinAll 128 = .ok (.imul, 1) := by decide +kernel
theorem dX6_joinAll_129 : decode cX6_joinAll 129 = .ok (.bipush 8, 2) := by decide +kernel
theorem dX6_joinAll_131 : decode cX6_joinAll 131 = .ok (.aload_n 0, 1) := by decide +kernel
theorem dX6_joinAll_132 : decode cX6_joinAll 132 = .ok (.getfield 15, 3) := by decide +kernel
theorem dX6_joinAll_135 : decode cX6_joinAll 135 = .ok (.iload_n 1, 1) := by decide +kernel
theorem dX6_joinAll_136 : decode cX6_joinAll 136 = .ok (.iaload, 1) := by decide +kernel
theorem dX6_joinAll_137 : decode cX6_joinAll 137 = .ok (.imul, 1) := by decide +kernel
theorem dX6_joinAll_138 : decode cX6_joinAll 138 = .ok (.iadd, 1) := by decide +kernel
theorem dX6_joinAll_139 : decode cX6_joinAll 139 = .ok (.iastore, 1) := by decide +kernel
theorem dX6_joinAll_140 : decode cX6_joinAll 140 = .ok (.aload_n 0, 1) := by decide +kernel
theorem dX6_joinAll_141 : decode cX6_joinAll 141 = .ok (.getfield 30, 3) := by decide +kernel
theorem dX6_joinAll_144 : decode cX6_joinAll 144 = .ok (.bipush 17, 2) := by decide +kernel
theorem dX6_joinAll_146 : decode cX6_joinAll 146 = .ok (.iload_n 2, 1) := by decide +kernel
theorem dX6_joinAll_147 : decode cX6_joinAll 147 = .ok (.imul, 1) := by decide +kernel
theorem dX6_joinAll_148 : decode cX6_joinAll 148 = .ok (.iload_n 1, 1) := by decide +kernel
theorem dX6_joinAll_149 : decode cX6_joinAll 149 = .ok (.iadd, 1) := by decide +kernel
theorem dX6_joinAll_150 : decode cX6_joinAll 150 = .ok (.iload 4, 2) := by decide +kernel
theorem dX6_joinAll_152 : decode cX6_joinAll 152 = .ok (.bipush 8, 2) := by decide +kernel
theorem dX6_joinAll_154 : decode cX6_joinAll 154 = .ok (.idiv, 1) := by decide +kernel
theorem dX6_joinAll_155 : decode cX6_joinAll 155 = .ok (.iastore, 1) := by decide +kernel
theorem dX6_joinAll_156 : decode cX6_joinAll 156 = .ok (.iinc 2 1, 3) := by decide +kernel
theorem dX6_joinAll_159 : decode cX6_joinAll 159 = .ok (.goto (-101), 3) := by decide +kernel
theorem dX6_joinAll_162 : decode cX6_joinAll 162 = .ok (.iinc 1 1, 3) := by decide +kernel
theorem dX6_joinAll_165 : decode cX6_joinAll 165 = .ok (.goto (-163), 3) := by decide +kernel
theorem dX6_joinAll_168 : decode cX6_joinAll 168 = .ok (.return_, 1) := by decide +kernel
