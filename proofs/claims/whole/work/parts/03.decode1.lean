theorem dX6_token_0 : decode cX6_token 0 = .ok (.aload_n 0, 1) := by decide +kernel
theorem dX6_token_1 : decode cX6_token 1 = .ok (.getfield 27, 3) := by decide +kernel
theorem dX6_token_4 : decode cX6_token 4 = .ok (.bipush 17, 2) := by decide +kernel
theorem dX6_token_6 : decode cX6_token 6 = .ok (.iload_n 1, 1) := by decide +kernel
theorem dX6_token_7 : decode cX6_token 7 = .ok (.imul, 1) := by decide +kernel
theorem dX6_token_8 : decode cX6_token 8 = .ok (.iload_n 2, 1) := by decide +kernel
theorem dX6_token_9 : decode cX6_token 9 = .ok (.iadd, 1) := by decide +kernel
theorem dX6_token_10 : decode cX6_token 10 = .ok (.iaload, 1) := by decide +kernel
theorem dX6_token_11 : decode cX6_token 11 = .ok (.aload_n 0, 1) := by decide +kernel
theorem dX6_token_12 : decode cX6_token 12 = .ok (.getfield 30, 3) := by decide +kernel
theorem dX6_token_15 : decode cX6_token 15 = .ok (.bipush 17, 2) := by decide +kernel
theorem dX6_token_17 : decode cX6_token 17 = .ok (.iload_n 3, 1) := by decide +kernel
theorem dX6_token_18 : decode cX6_token 18 = .ok (.imul, 1) := by decide +kernel
theorem dX6_token_19 : decode cX6_token 19 = .ok (.iload_n 2, 1) := by decide +kernel
theorem dX6_token_20 : decode cX6_token 20 = .ok (.iadd, 1) := by decide +kernel
theorem dX6_token_21 : decode cX6_token 21 = .ok (.iaload, 1) := by decide +kernel
theorem dX6_token_22 : decode cX6_token 22 = .ok (.iadd, 1) := by decide +kernel
theorem dX6_token_23 : decode cX6_token 23 = .ok (.ireturn, 1) := by decide +kernel
theorem dX6_hoursOf_0 : decode cX6_hoursOf 0 = .ok (.iconst 0, 1) := by decide +kernel
theorem dX6_hoursOf_1 : decode cX6_hoursOf 1 = .ok (.istore_n 2, 1) := by decide +kernel
theorem dX6_hoursOf_2 : decode cX6_hoursOf 2 = .ok (.iconst 0, 1) := by decide +kernel
theorem dX6_hoursOf_3 : decode cX6_hoursOf 3 = .ok (.istore_n 3, 1) := by decide +kernel
theorem dX6_hoursOf_4 : decode cX6_hoursOf 4 = .ok (.iload_n 3, 1) := by decide +kernel
theorem dX6_hoursOf_5 : decode cX6_hoursOf 5 = .ok (.iconst 5, 1) := by decide +kernel
theorem dX6_hoursOf_6 : decode cX6_hoursOf 6 = .ok (.if_icmp .ge 24, 3) := by decide +kernel
theorem dX6_hoursOf_9 : decode cX6_hoursOf 9 = .ok (.iload_n 2, 1) := by decide +kernel
theorem dX6_hoursOf_10 : decode cX6_hoursOf 10 = .ok (.iload_n 1, 1) := by decide +kernel
theorem dX6_hoursOf_11 : decode cX6_hoursOf 11 = .ok (.iload_n 3, 1) := by decide +kernel
theorem dX6_hoursOf_12 : decode cX6_hoursOf 12 = .ok (.ishr, 1) := by decide +kernel
theorem dX6_hoursOf_13 : decode cX6_hoursOf 13 = .ok (.iconst 1, 1) := by decide +kernel
theorem dX6_hoursOf_14 : decode cX6_hoursOf 14 = .ok (.iand, 1) := by decide +kernel
theorem dX6_hoursOf_15 : decode cX6_hoursOf 15 = .ok (.aload_n 0, 1) := by decide +kernel
theorem dX6_hoursOf_16 : decode cX6_hoursOf 16 = .ok (.getfield 24, 3) := by decide +kernel
theorem dX6_hoursOf_19 : decode cX6_hoursOf 19 = .ok (.iload_n 3, 1) := by decide +kernel
theorem dX6_hoursOf_20 : decode cX6_hoursOf 20 = .ok (.iaload, 1) := by decide +kernel
theorem dX6_hoursOf_21 : decode cX6_hoursOf 21 = .ok (.imul, 1) := by decide +kernel
theorem dX6_hoursOf_22 : decode cX6_hoursOf 22 = .ok (.iadd, 1) := by decide +kernel
theorem dX6_hoursOf_23 : decode cX6_hoursOf 23 = .ok (.istore_n 2, 1) := by decide +kernel
theorem dX6_hoursOf_24 : decode cX6_hoursOf 24 = .ok (.iinc 3 1, 3) := by decide +kernel
theorem dX6_hoursOf_27 : decode cX6_hoursOf 27 = .ok (.goto (-23), 3) := by decide +kernel
theorem dX6_hoursOf_30 : decode cX6_hoursOf 30 = .ok (.iload_n 2, 1) := by decide +kernel
theorem dX6_hoursOf_31 : decode cX6_hoursOf 31 = .ok (.ireturn, 1) := by decide +kernel
theorem dX6_isListedAlike_0 : decode cX6_isListedAlike 0 = .ok (.aload_n 0, 1) := by decide +kernel
theorem dX6_isListedAlike_1 : decode cX6_isListedAlike 1 = .ok (.getfield 9, 3) := by decide +kernel
theorem dX6_isListedAlike_4 : decode cX6_isListedAlike 4 = .ok (.iload_n 1, 1) := by decide +kernel
theorem dX6_isListedAlike_5 : decode cX6_isListedAlike 5 = .ok (.iaload, 1) := by decide +kernel
theorem dX6_isListedAlike_6 : decode cX6_isListedAlike 6 = .ok (.aload_n 0, 1) := by decide +kernel
theorem dX6_isListedAlike_7 : decode cX6_isListedAlike 7 = .ok (.getfield 9, 3) := by decide +kernel
theorem dX6_isListedAlike_10 : decode cX6_isListedAlike 10 = .ok (.iload_n 2, 1) := by decide +kernel
theorem dX6_isListedAlike_11 : decode cX6_isListedAlike 11 = .ok (.iaload, 1) := by decide +kernel
theorem dX6_isListedAlike_12 : decode cX6_isListedAlike 12 = .ok (.if_icmp .ne 22, 3) := by decide +kernel
theorem dX6_isListedAlike_15 : decode cX6_isListedAlike 15 = .ok (.aload_n 0, 1) := by decide +kernel
theorem dX6_isListedAlike_16 : decode cX6_isListedAlike 16 = .ok (.getfield 15, 3) := by decide +kernel
theorem dX6_isListedAlike_19 : decode cX6_isListedAlike 19 = .ok (.iload_n 1, 1) := by decide +kernel
theorem dX6_isListedAlike_20 : decode cX6_isListedAlike 20 = .ok (.iaload, 1) := by decide +kernel
theorem dX6_isListedAlike_21 : decode cX6_isListedAlike 21 = .ok (.aload_n 0, 1) := by decide +kernel
theorem dX6_isListedAlike_22 : decode cX6_isListedAlike 22 = .ok (.getfield 15, 3) := by decide +kernel
theorem dX6_isListedAlike_25 : decode cX6_isListedAlike 25 = .ok (.iload_n 2, 1) := by decide +kernel
theorem dX6_isListedAlike_26 : decode cX6_isListedAlike 26 = .ok (.iaload, 1) := by decide +kernel
theorem dX6_isListedAlike_27 : decode cX6_isListedAlike 27 = .ok (.if_icmp .ne 7, 3) := by decide +kernel
theorem dX6_isListedAlike_30 : decode cX6_isListedAlike 30 = .ok (.iconst 1, 1) := by decide +kernel
theorem dX6_isListedAlike_31 : decode cX6_isListedAlike 31 = .ok (.goto 4, 3) := by decide +kernel
theorem dX6_isListedAlike_34 : decode cX6_isListedAlike 34 = .ok (.iconst 0, 1) := by decide +kernel
theorem dX6_isListedAlike_35 : decode cX6_isListedAlike 35 = .ok (.ireturn, 1) := by decide +kernel
theorem dX7_init_0 : decode cX7_init 0 = .ok (.aload_n 0, 1) := by decide +kernel
theorem dX7_init_1 : decode cX7_init 1 = .ok (.invokespecial 3, 3) := by decide +kernel
theorem dX7_init_4 : decode cX7_init 4 = .ok (.aload_n 0, 1) := by decide +kernel
theorem dX7_init_5 : decode cX7_init 5 = .ok (.bipush 8, 2) := by decide +kernel
theorem dX7_init_7 : decode cX7_init 7 = .ok (.newarray .int, 2) := by decide +kernel
theorem dX7_init_9 : decode cX7_init 9 = .ok (.putfield 9, 3) := by decide +kernel
theorem dX7_init_12 : decode cX7_init 12 = .ok (.aload_n 0, 1) := by decide +kernel
theorem dX7_init_13 : decode cX7_init 13 = .ok (.bipush 8, 2) := by decide +kernel
theorem dX7_init_15 : decode cX7_init 15 = .ok (.bipush 16, 2) := by decide +kernel
theorem dX7_init_17 : decode cX7_init 17 = .ok (.multianewarray 15 2, 4) := by decide +kernel
theorem dX7_init_21 : decode cX7_init 21 = .ok (.putfield 17, 3) := by decide +kernel
theorem dX7_init_24 : decode cX7_init 24 = .ok (.aload_n 0, 1) := by decide +kernel
theorem dX7_init_25 : decode cX7_init 25 = .ok (.bipush 8, 2) := by decide +kernel
theorem dX7_init_27 : decode cX7_init 27 = .ok (.bipush 16, 2) := by decide +kernel
theorem dX7_init_29 : decode cX7_init 29 = .ok (.multianewarray 15 2, 4) := by decide +kernel
theorem dX7_init_33 : decode cX7_init 33 = .ok (.putfield 20, 3) := by decide +kernel
theorem dX7_init_36 : decode cX7_init 36 = .ok (.aload_n 0, 1) := by decide +kernel
theorem dX7_init_37 : decode cX7_init 37 = .ok (.bipush 8, 2) := by decide +kernel
theorem dX7_init_39 : decode cX7_init 39 = .ok (.bipush 16, 2) := by decide +kernel
theorem dX7_init_41 : decode cX7_init 41 = .ok (.multianewarray 15 2, 4) := by decide +kernel
theorem dX7_init_45 : decode cX7_init 45 = .ok (.putfield 23, 3) := by decide +kernel
theorem dX7_init_48 : decode cX7_init 48 = .ok (.aload_n 0, 1) := by decide +kernel
theorem dX7_init_49 : decode cX7_init 49 = .ok (.bipush 8, 2) := by decide +kernel
theorem dX7_init_51 : decode cX7_init 51 = .ok (.bipush 16, 2) := by decide +kernel
theorem dX7_init_53 : decode cX7_init 53 = .ok (.multianewarray 15 2, 4) := by decide +kernel
theorem dX7_init_57 : decode cX7_init 57 = .ok (.putfield 26, 3) := by decide +kernel
theorem dX7_init_60 : decode cX7_init 60 = .ok (.aload_n 0, 1) := by decide +kernel
theorem dX7_init_61 : decode cX7_init 61 = .ok (.bipush 8, 2) := by decide +kernel
theorem dX7_init_63 : decode cX7_init 63 = .ok (.bipush 16, 2) := by decide +kernel
theorem dX7_init_65 : decode cX7_init 65 = .ok (.multianewarray 15 2, 4) := by decide +kernel
theorem dX7_init_69 : decode cX7_init 69 = .ok (.putfield 29, 3) := by decide +kernel
theorem dX7_init_72 : decode cX7_init 72 = .ok (.aload_n 0, 1) := by decide +kernel
theorem dX7_init_73 : decode cX7_init 73 = .ok (.bipush 8, 2) := by decide +kernel
theorem dX7_init_75 : decode cX7_init 75 = .ok (.newarray .int, 2) := by decide +kernel
theorem dX7_init_77 : decode cX7_init 77 = .ok (.putfield 32, 3) := by decide +kernel
theorem dX7_init_80 : decode cX7_init 80 = .ok (.aload_n 0, 1) := by decide +kernel
theorem dX7_init_81 : decode cX7_init 81 = .ok (.bipush 8, 2) := by decide +kernel
theorem dX7_init_83 : decode cX7_init 83 = .ok (.iconst 3, 1) := by decide +kernel
theorem dX7_init_84 : decode cX7_init 84 = .ok (.multianewarray 15 2, 4) := by decide +kernel
theorem dX7_init_88 : decode cX7_init 88 = .ok (.putfield 35, 3) := by decide +kernel
theorem dX7_init_91 : decode cX7_init 91 = .ok (.aload_n 0, 1) := by decide +kernel
theorem dX7_init_92 : decode cX7_init 92 = .ok (.bipush 8, 2) := by decide +kernel
theorem dX7_init_94 : decode cX7_init 94 = .ok (.iconst 3, 1) := by decide +kernel
theorem dX7_init_95 : decode cX7_init 95 = .ok (.multianewarray 15 2, 4) := by decide +kernel
theorem dX7_init_99 : decode cX7_init 99 = .ok (.putfield 38, 3) := by decide +kernel
theorem dX7_init_102 : decode cX7_init 102 = .ok (.aload_n 0, 1) := by decide +kernel
theorem dX7_init_103 : decode cX7_init 103 = .ok (.bipush 8, 2) := by decide +kernel
theorem dX7_init_105 : decode cX7_init 105 = .ok (.iconst 3, 1) := by decide +kernel
theorem dX7_init_106 : decode cX7_init 106 = .ok (.multianewarray 15 2, 4) := by decide +kernel
theorem dX7_init_110 : decode cX7_init 110 = .ok (.putfield 41, 3) := by decide +kernel
theorem dX7_init_113 : decode cX7_init 113 = .ok (.aload_n 0, 1) := by decide +kernel
theorem dX7_init_114 : decode cX7_init 114 = .ok (.iconst 3, 1) := by decide +kernel
theorem dX7_init_115 : decode cX7_init 115 = .ok (.newarray .int, 2) := by decide +kernel
theorem dX7_init_117 : decode cX7_init 117 = .ok (.dup, 1) := by decide +kernel
theorem dX7_init_118 : decode cX7_init 118 = .ok (.iconst 0, 1) := by decide +kernel
theorem dX7_init_119 : decode cX7_init 119 = .ok (.bipush 16, 2) := by decide +kernel
theorem dX7_init_121 : decode cX7_init 121 = .ok (.iastore, 1) := by decide +kernel
theorem dX7_init_122 : decode cX7_init 122 = .ok (.dup, 1) := by decide +kernel
theorem dX7_init_123 : decode cX7_init 123 = .ok (.iconst 1, 1) := by decide +kernel
theorem dX7_init_124 : decode cX7_init 124 = .ok (.bipush 16, 2) := by decide +kernel
theorem dX7_init_126 : decode cX7_init 126 = .ok (.iastore, 1) := by decide +kernel
theorem dX7_init_127 : decode cX7_init 127 = .ok (.dup, 1) := by decide +kernel
theorem dX7_init_128 : decode cX7_init 128 = .ok (.iconst 2, 1) := by decide +kernel
theorem dX7_init_129 : decode cX7_init 129 = .ok (.bipush 16, 2) := by decide +kernel
theorem dX7_init_131 : decode cX7_init 131 = .ok (.iastore, 1) := by decide +kernel
theorem dX7_init_132 : decode cX7_init 132 = .ok (.putfield 44, 3) := by decide +kernel
theorem dX7_init_135 : decode cX7_init 135 = .ok (.aload_n 0, 1) := by decide +kernel
theorem dX7_init_136 : decode cX7_init 136 = .ok (.aload_n 1, 1) := by decide +kernel
theorem dX7_init_137 : decode cX7_init 137 = .ok (.putfield 47, 3) := by decide +kernel
theorem dX7_init_140 : decode cX7_init 140 = .ok (.return_, 1) := by decide +kernel
theorem dX7_begin_0 : decode cX7_begin 0 = .ok (.aload_n 0, 1) := by decide +kernel
theorem dX7_begin_1 : decode cX7_begin 1 = .ok (.aload_n 1, 1) := by decide +kernel
theorem dX7_begin_2 : decode cX7_begin 2 = .ok (.putfield 47, 3) := by decide +kernel
theorem dX7_begin_5 : decode cX7_begin 5 = .ok (.iconst 0, 1) := by decide +kernel
theorem dX7_begin_6 : decode cX7_begin 6 = .ok (.istore_n 2, 1) := by decide +kernel
theorem dX7_begin_7 : decode cX7_begin 7 = .ok (.iload_n 2, 1) := by decide +kernel
theorem dX7_begin_8 : decode cX7_begin 8 = .ok (.bipush 8, 2) := by decide +kernel
theorem dX7_begin_10 : decode cX7_begin 10 = .ok (.if_icmp .ge 23, 3) := by decide +kernel
theorem dX7_begin_13 : decode cX7_begin 13 = .ok (.aload_n 0, 1) := by decide +kernel
theorem dX7_begin_14 : decode cX7_begin 14 = .ok (.getfield 9, 3) := by decide +kernel
theorem dX7_begin_17 : decode cX7_begin 17 = .ok (.iload_n 2, 1) := by decide +kernel
theorem dX7_begin_18 : decode cX7_begin 18 = .ok (.iconst 0, 1) := by decide +kernel
theorem dX7_begin_19 : decode cX7_begin 19 = .ok (.iastore, 1) := by decide +kernel
theorem dX7_begin_20 : decode cX7_begin 20 = .ok (.aload_n 0, 1) := by decide +kernel
theorem dX7_begin_21 : decode cX7_begin 21 = .ok (.getfield 32, 3) := by decide +kernel
theorem dX7_begin_24 : decode cX7_begin 24 = .ok (.iload_n 2, 1) := by decide +kernel
theorem dX7_begin_25 : decode cX7_begin 25 = .ok (.iconst 0, 1) := by decide +kernel
theorem dX7_begin_26 : decode cX7_begin 26 = .ok (.iastore, 1) := by decide +kernel
theorem dX7_begin_27 : decode cX7_begin 27 = .ok (.iinc 2 1, 3) := by decide +kernel
theorem dX7_begin_30 : decode cX7_begin 30 = .ok (.goto (-23), 3) := by decide +kernel
theorem dX7_begin_33 : decode cX7_begin 33 = .ok (.return_, 1) := by decide +kernel
theorem dX7_want_0 : decode cX7_want 0 = .ok (.iload_n 1, 1) := by decide +kernel
theorem dX7_want_1 : decode cX7_want 1 = .ok (.ifCond .lt 37, 3) := by decide +kernel
theorem dX7_want_4 : decode cX7_want 4 = .ok (.iload_n 3, 1) := by decide +kernel
theorem dX7_want_5 : decode cX7_want 5 = .ok (.ifCond .lt 33, 3) := by decide +kernel
theorem dX7_want_8 : decode cX7_want 8 = .ok (.iload_n 1, 1) := by decide +kernel
theorem dX7_want_9 : decode cX7_want 9 = .ok (.iload_n 3, 1) := by decide +kernel
theorem dX7_want_10 : decode cX7_want 10 = .ok (.isub, 1) := by decide +kernel
theorem dX7_want_11 : decode cX7_want 11 = .ok (.invokestatic 51, 3) := by decide +kernel
theorem dX7_want_14 : decode cX7_want 14 = .ok (.iconst 2, 1) := by decide +kernel
theorem dX7_want_15 : decode cX7_want 15 = .ok (.if_icmp .ne 23, 3) := by decide +kernel
theorem dX7_want_18 : decode cX7_want 18 = .ok (.aload_n 0, 1) := by decide +kernel
theorem dX7_want_19 : decode cX7_want 19 = .ok (.iload_n 2, 1) := by decide +kernel
theorem dX7_want_20 : decode cX7_want 20 = .ok (.iload_n 1, 1) := by decide +kernel
theorem dX7_want_21 : decode cX7_want 21 = .ok (.iload_n 3, 1) := by decide +kernel
theorem dX7_want_22 : decode cX7_want 22 = .ok (.if_icmp .le 7, 3) := by decide +kernel
theorem dX7_want_25 : decode cX7_want 25 = .ok (.iconst 1, 1) := by decide +kernel
theorem dX7_want_26 : decode cX7_want 26 = .ok (.goto 4, 3) := by decide +kernel
theorem dX7_want_29 : decode cX7_want 29 = .ok (.iconst 0, 1) := by decide +kernel
theorem dX7_want_30 : decode cX7_want 30 = .ok (.iload 4, 2) := by decide +kernel
theorem dX7_want_32 : decode cX7_want 32 = .ok (.invokevirtual 57, 3) := by decide +kernel
theorem dX7_want_35 : decode cX7_want 35 = .ok (.goto 12, 3) := by decide +kernel
theorem dX7_want_38 : decode cX7_want 38 = .ok (.aload_n 0, 1) := by decide +kernel
theorem dX7_want_39 : decode cX7_want 39 = .ok (.iload_n 1, 1) := by decide +kernel
theorem dX7_want_40 : decode cX7_want 40 = .ok (.iload_n 2, 1) := by decide +kernel
theorem dX7_want_41 : decode cX7_want 41 = .ok (.iload_n 3, 1) := by decide +kernel
theorem dX7_want_42 : decode cX7_want 42 = .ok (.iload 4, 2) := by decide +kernel
theorem dX7_want_44 : decode cX7_want 44 = .ok (.invokevirtual 61, 3) := by decide +kernel
theorem dX7_want_47 : decode cX7_want 47 = .ok (.return_, 1) := by decide +kernel
theorem dX7_wantSpan_0 : decode cX7_wantSpan 0 = .ok (.iconst 0, 1) := by decide +kernel
theorem dX7_wantSpan_1 : decode cX7_wantSpan 1 = .ok (.istore 4, 2) := by decide +kernel
theorem dX7_wantSpan_3 : decode cX7_wantSpan 3 = .ok (.iload 4, 2) := by decide +kernel
theorem dX7_wantSpan_5 : decode cX7_wantSpan 5 = .ok (.aload_n 0, 1) := by decide +kernel
theorem dX7_wantSpan_6 : decode cX7_wantSpan 6 = .ok (.getfield 32, 3) := by decide +kernel
theorem dX7_wantSpan_9 : decode cX7_wantSpan 9 = .ok (.iload_n 1, 1) := by decide +kernel
theorem dX7_wantSpan_10 : decode cX7_wantSpan 10 = .ok (.iaload, 1) := by decide +kernel
theorem dX7_wantSpan_11 : decode cX7_wantSpan 11 = .ok (.if_icmp .ge 49, 3) := by decide +kernel
theorem dX7_wantSpan_14 : decode cX7_wantSpan 14 = .ok (.aload_n 0, 1) := by decide +kernel
theorem dX7_wantSpan_15 : decode cX7_wantSpan 15 = .ok (.getfield 35, 3) := by decide +kernel
theorem dX7_wantSpan_18 : decode cX7_wantSpan 18 = .ok (.iload_n 1, 1) := by decide +kernel
theorem dX7_wantSpan_19 : decode cX7_wantSpan 19 = .ok (.aaload, 1) := by decide +kernel
theorem dX7_wantSpan_20 : decode cX7_wantSpan 20 = .ok (.iload 4, 2) := by decide +kernel
theorem dX7_wantSpan_22 : decode cX7_wantSpan 22 = .ok (.iaload, 1) := by decide +kernel
theorem dX7_wantSpan_23 : decode cX7_wantSpan 23 = .ok (.iload_n 2, 1) := by decide +kernel
theorem dX7_wantSpan_24 : decode cX7_wantSpan 24 = .ok (.if_icmp .ne 30, 3) := by decide +kernel
theorem dX7_wantSpan_27 : decode cX7_wantSpan 27 = .ok (.aload_n 0, 1) := by decide +kernel
theorem dX7_wantSpan_28 : decode cX7_wantSpan 28 = .ok (.getfield 38, 3) := by decide +kernel
theorem dX7_wantSpan_31 : decode cX7_wantSpan 31 = .ok (.iload_n 1, 1) := by decide +kernel
theorem dX7_wantSpan_32 : decode cX7_wantSpan 32 = .ok (.aaload, 1) := by decide +kernel
theorem dX7_wantSpan_33 : decode cX7_wantSpan 33 = .ok (.iload 4, 2) := by decide +kernel
theorem dX7_wantSpan_35 : decode cX7_wantSpan 35 = .ok (.iaload, 1) := by decide +kernel
theorem dX7_wantSpan_36 : decode cX7_wantSpan 36 = .ok (.iload_n 3, 1) := by decide +kernel
theorem dX7_wantSpan_37 : decode cX7_wantSpan 37 = .ok (.if_icmp .ne 17, 3) := by decide +kernel
theorem dX7_wantSpan_40 : decode cX7_wantSpan 40 = .ok (.aload_n 0, 1) := by decide +kernel
theorem dX7_wantSpan_41 : decode cX7_wantSpan 41 = .ok (.getfield 41, 3) := by decide +kernel
theorem dX7_wantSpan_44 : decode cX7_wantSpan 44 = .ok (.iload_n 1, 1) := by decide +kernel
theorem dX7_wantSpan_45 : decode cX7_wantSpan 45 = .ok (.aaload, 1) := by decide +kernel
theorem dX7_wantSpan_46 : decode cX7_wantSpan 46 = .ok (.iload 4, 2) := by decide +kernel
theorem dX7_wantSpan_48 : decode cX7_wantSpan 48 = .ok (.dup2, 1) := by decide +kernel
theorem dX7_wantSpan_49 : decode cX7_wantSpan 49 = .ok (.iaload, 1) := by decide +kernel
theorem dX7_wantSpan_50 : decode cX7_wantSpan 50 = .ok (.iconst 1, 1) := by decide +kernel
theorem dX7_wantSpan_51 : decode cX7_wantSpan 51 = .ok (.iadd, 1) := by decide +kernel
theorem dX7_wantSpan_52 : decode cX7_wantSpan 52 = .ok (.iastore, 1) := by decide +kernel
theorem dX7_wantSpan_53 : decode cX7_wantSpan 53 = .ok (.return_, 1) := by decide +kernel
theorem dX7_wantSpan_54 : decode cX7_wantSpan 54 = .ok (.iinc 4 1, 3) := by decide +kernel
theorem dX7_wantSpan_57 : decode cX7_wantSpan 57 = .ok (.goto (-54), 3) := by decide +kernel
theorem dX7_wantSpan_60 : decode cX7_wantSpan 60 = .ok (.aload_n 0, 1) := by decide +kernel
theorem dX7_wantSpan_61 : decode cX7_wantSpan 61 = .ok (.getfield 32, 3) := by decide +kernel
theorem dX7_wantSpan_64 : decode cX7_wantSpan 64 = .ok (.iload_n 1, 1) := by decide +kernel
theorem dX7_wantSpan_65 : decode cX7_wantSpan 65 = .ok (.iaload, 1) := by decide +kernel
theorem dX7_wantSpan_66 : decode cX7_wantSpan 66 = .ok (.iconst 3, 1) := by decide +kernel
theorem dX7_wantSpan_67 : decode cX7_wantSpan 67 = .ok (.if_icmp .ge 51, 3) := by decide +kernel
theorem dX7_wantSpan_70 : decode cX7_wantSpan 70 = .ok (.aload_n 0, 1) := by decide +kernel
theorem dX7_wantSpan_71 : decode cX7_wantSpan 71 = .ok (.getfield 32, 3) := by decide +kernel
theorem dX7_wantSpan_74 : decode cX7_wantSpan 74 = .ok (.iload_n 1, 1) := by decide +kernel
theorem dX7_wantSpan_75 : decode cX7_wantSpan 75 = .ok (.iaload, 1) := by decide +kernel
theorem dX7_wantSpan_76 : decode cX7_wantSpan 76 = .ok (.istore 4, 2) := by decide +kernel
theorem dX7_wantSpan_78 : decode cX7_wantSpan 78 = .ok (.aload_n 0, 1) := by decide +kernel
theorem dX7_wantSpan_79 : decode cX7_wantSpan 79 = .ok (.getfield 35, 3) := by decide +kernel
theorem dX7_wantSpan_82 : decode cX7_wantSpan 82 = .ok (.iload_n 1, 1) := by decide +kernel
theorem dX7_wantSpan_83 : decode cX7_wantSpan 83 = .ok (.aaload, 1) := by decide +kernel
theorem dX7_wantSpan_84 : decode cX7_wantSpan 84 = .ok (.iload 4, 2) := by decide +kernel
theorem dX7_wantSpan_86 : decode cX7_wantSpan 86 = .ok (.iload_n 2, 1) := by decide +kernel
theorem dX7_wantSpan_87 : decode cX7_wantSpan 87 = .ok (.iastore, 1) := by decide +kernel
theorem dX7_wantSpan_88 : decode cX7_wantSpan 88 = .ok (.aload_n 0, 1) := by decide +kernel
theorem dX7_wantSpan_89 : decode cX7_wantSpan 89 = .ok (.getfield 38, 3) := by decide +kernel
theorem dX7_wantSpan_92 : decode cX7_wantSpan 92 = .ok (.iload_n 1, 1) := by decide +kernel
theorem dX7_wantSpan_93 : decode cX7_wantSpan 93 = .ok (.aaload, 1) := by decide +kernel
theorem dX7_wantSpan_94 : decode cX7_wantSpan 94 = .ok (.iload 4, 2) := by decide +kernel
theorem dX7_wantSpan_96 : decode cX7_wantSpan 96 = .ok (.iload_n 3, 1) := by decide +kernel
theorem dX7_wantSpan_97 : decode cX7_wantSpan 97 = .ok (.iastore, 1) := by decide +kernel
theorem dX7_wantSpan_98 : decode cX7_wantSpan 98 = .ok (.aload_n 0, 1) := by decide +kernel
theorem dX7_wantSpan_99 : decode cX7_wantSpan 99 = .ok (.getfield 41, 3) := by decide +kernel
theorem dX7_wantSpan_102 : decode cX7_wantSpan 102 = .ok (.iload_n 1, 1) := by decide +kernel
theorem dX7_wantSpan_103 : decode cX7_wantSpan 103 = .ok (.aaload, 1) := by decide +kernel
theorem dX7_wantSpan_104 : decode cX7_wantSpan 104 = .ok (.iload 4, 2) := by decide +kernel
theorem dX7_wantSpan_106 : decode cX7_wantSpan 106 = .ok (.iconst 1, 1) := by decide +kernel
theorem dX7_wantSpan_107 : decode cX7_wantSpan 107 = .ok (.iastore, 1) := by decide +kernel
theorem dX7_wantSpan_108 : decode cX7_wantSpan 108 = .ok (.aload_n 0, 1) := by decide +kernel
theorem dX7_wantSpan_109 : decode cX7_wantSpan 109 = .ok (.getfield 32, 3) := by decide +kernel
theorem dX7_wantSpan_112 : decode cX7_wantSpan 112 = .ok (.iload_n 1, 1) := by decide +kernel
theorem dX7_wantSpan_113 : decode cX7_wantSpan 113 = .ok (.dup2, 1) := by decide +kernel
theorem dX7_wantSpan_114 : decode cX7_wantSpan 114 = .ok (.iaload, 1) := by decide +kernel
theorem dX7_wantSpan_115 : decode cX7_wantSpan 115 = .ok (.iconst 1, 1) := by decide +kernel
theorem dX7_wantSpan_116 : decode cX7_wantSpan 116 = .ok (.iadd, 1) := by decide +kernel
theorem dX7_wantSpan_117 : decode cX7_wantSpan 117 = .ok (.iastore, 1) := by decide +kernel
theorem dX7_wantSpan_118 : decode cX7_wantSpan 118 = .ok (.return_, 1) := by decide +kernel
theorem dX7_wantTie_0 : decode cX7_wantTie 0 = .ok (.iload_n 2, 1) := by decide +kernel
theorem dX7_wantTie_1 : decode cX7_wantTie 1 = .ok (.iload_n 1, 1) := by decide +kernel
theorem dX7_wantTie_2 : decode cX7_wantTie 2 = .ok (.iload_n 3, 1) := by decide +kernel
theorem dX7_wantTie_3 : decode cX7_wantTie 3 = .ok (.invokestatic 65, 3) := by decide +kernel
theorem dX7_wantTie_6 : decode cX7_wantTie 6 = .ok (.invokestatic 65, 3) := by decide +kernel
theorem dX7_wantTie_9 : decode cX7_wantTie 9 = .ok (.istore 5, 2) := by decide +kernel
theorem dX7_wantTie_11 : decode cX7_wantTie 11 = .ok (.iload_n 1, 1) := by decide +kernel
theorem dX7_wantTie_12 : decode cX7_wantTie 12 = .ok (.iload 5, 2) := by decide +kernel
theorem dX7_wantTie_14 : decode cX7_wantTie 14 = .ok (.invokestatic 69, 3) := by decide +kernel
theorem dX7_wantTie_17 : decode cX7_wantTie 17 = .ok (.istore 6, 2) := by decide +kernel
theorem dX7_wantTie_19 : decode cX7_wantTie 19 = .ok (.iload_n 2, 1) := by decide +kernel
theorem dX7_wantTie_20 : decode cX7_wantTie 20 = .ok (.iload 5, 2) := by decide +kernel
theorem dX7_wantTie_22 : decode cX7_wantTie 22 = .ok (.invokestatic 69, 3) := by decide +kernel
theorem dX7_wantTie_25 : decode cX7_wantTie 25 = .ok (.istore 7, 2) := by decide +kernel
theorem dX7_wantTie_27 : decode cX7_wantTie 27 = .ok (.iload_n 3, 1) := by decide +kernel
theorem dX7_wantTie_28 : decode cX7_wantTie 28 = .ok (.iload 5, 2) := by decide +kernel
theorem dX7_wantTie_30 : decode cX7_wantTie 30 = .ok (.invokestatic 69, 3) := by decide +kernel
theorem dX7_wantTie_33 : decode cX7_wantTie 33 = .ok (.istore 8, 2) := by decide +kernel
theorem dX7_wantTie_35 : decode cX7_wantTie 35 = .ok (.iconst 0, 1) := by decide +kernel
theorem dX7_wantTie_36 : decode cX7_wantTie 36 = .ok (.istore 9, 2) := by decide +kernel
theorem dX7_wantTie_38 : decode cX7_wantTie 38 = .ok (.iload 9, 2) := by decide +kernel
theorem dX7_wantTie_40 : decode cX7_wantTie 40 = .ok (.aload_n 0, 1) := by decide +kernel
theorem dX7_wantTie_41 : decode cX7_wantTie 41 = .ok (.getfield 9, 3) := by decide +kernel
theorem dX7_wantTie_44 : decode cX7_wantTie 44 = .ok (.iload 5, 2) := by decide +kernel
theorem dX7_wantTie_46 : decode cX7_wantTie 46 = .ok (.iaload, 1) := by decide +kernel
theorem dX7_wantTie_47 : decode cX7_wantTie 47 = .ok (.if_icmp .ge 84, 3) := by decide +kernel
theorem dX7_wantTie_50 : decode cX7_wantTie 50 = .ok (.aload_n 0, 1) := by decide +kernel
theorem dX7_wantTie_51 : decode cX7_wantTie 51 = .ok (.getfield 17, 3) := by decide +kernel
theorem dX7_wantTie_54 : decode cX7_wantTie 54 = .ok (.iload 5, 2) := by decide +kernel
theorem dX7_wantTie_56 : decode cX7_wantTie 56 = .ok (.aaload, 1) := by decide +kernel
theorem dX7_wantTie_57 : decode cX7_wantTie 57 = .ok (.iload 9, 2) := by decide +kernel
theorem dX7_wantTie_59 : decode cX7_wantTie 59 = .ok (.iaload, 1) := by decide +kernel
theorem dX7_wantTie_60 : decode cX7_wantTie 60 = .ok (.iload 6, 2) := by decide +kernel
theorem dX7_wantTie_62 : decode cX7_wantTie 62 = .ok (.if_icmp .ne 63, 3) := by decide +kernel
theorem dX7_wantTie_65 : decode cX7_wantTie 65 = .ok (.aload_n 0, 1) := by decide +kernel
theorem dX7_wantTie_66 : decode cX7_wantTie 66 = .ok (.getfield 20, 3) := by decide +kernel
theorem dX7_wantTie_69 : decode cX7_wantTie 69 = .ok (.iload 5, 2) := by decide +kernel
theorem dX7_wantTie_71 : decode cX7_wantTie 71 = .ok (.aaload, 1) := by decide +kernel
theorem dX7_wantTie_72 : decode cX7_wantTie 72 = .ok (.iload 9, 2) := by decide +kernel
theorem dX7_wantTie_74 : decode cX7_wantTie 74 = .ok (.iaload, 1) := by decide +kernel
theorem dX7_wantTie_75 : decode cX7_wantTie 75 = .ok (.iload 7, 2) := by decide +kernel
theorem dX7_wantTie_77 : decode cX7_wantTie 77 = .ok (.if_icmp .ne 48, 3) := by decide +kernel
theorem dX7_wantTie_80 : decode cX7_wantTie 80 = .ok (.aload_n 0, 1) := by decide +kernel
theorem dX7_wantTie_81 : decode cX7_wantTie 81 = .ok (.getfield 23, 3) := by decide +kernel
theorem dX7_wantTie_84 : decode cX7_wantTie 84 = .ok (.iload 5, 2) := by decide +kernel
theorem dX7_wantTie_86 : decode cX7_wantTie 86 = .ok (.aaload, 1) := by decide +kernel
theorem dX7_wantTie_87 : decode cX7_wantTie 87 = .ok (.iload 9, 2) := by decide +kernel
theorem dX7_wantTie_89 : decode cX7_wantTie 89 = .ok (.iaload, 1) := by decide +kernel
theorem dX7_wantTie_90 : decode cX7_wantTie 90 = .ok (.iload 8, 2) := by decide +kernel
theorem dX7_wantTie_92 : decode cX7_wantTie 92 = .ok (.if_icmp .ne 33, 3) := by decide +kernel
theorem dX7_wantTie_95 : decode cX7_wantTie 95 = .ok (.aload_n 0, 1) := by decide +kernel
theorem dX7_wantTie_96 : decode cX7_wantTie 96 = .ok (.getfield 26, 3) := by decide +kernel
theorem dX7_wantTie_99 : decode cX7_wantTie 99 = .ok (.iload 5, 2) := by decide +kernel
theorem dX7_wantTie_101 : decode cX7_wantTie 101 = .ok (.aaload, 1) := by decide +kernel
theorem dX7_wantTie_102 : decode cX7_wantTie 102 = .ok (.iload 9, 2) := by decide +kernel
theorem dX7_wantTie_104 : decode cX7_wantTie 104 = .ok (.iaload, 1) := by decide +kernel
theorem dX7_wantTie_105 : decode cX7_wantTie 105 = .ok (.iload 4, 2) := by decide +kernel
theorem dX7_wantTie_107 : decode cX7_wantTie 107 = .ok (.if_icmp .ne 18, 3) := by decide +kernel
theorem dX7_wantTie_110 : decode cX7_wantTie 110 = .ok (.aload_n 0, 1) := by decide +kernel
theorem dX7_wantTie_111 : decode cX7_wantTie 111 = .ok (.getfield 29, 3) := by decide +kernel
theorem dX7_wantTie_114 : decode cX7_wantTie 114 = .ok (.iload 5, 2) := by decide +kernel
theorem dX7_wantTie_116 : decode cX7_wantTie 116 = .ok (.aaload, 1) := by decide +kernel
theorem dX7_wantTie_117 : decode cX7_wantTie 117 = .ok (.iload 9, 2) := by decide +kernel
theorem dX7_wantTie_119 : decode cX7_wantTie 119 = .ok (.dup2, 1) := by decide +kernel
theorem dX7_wantTie_120 : decode cX7_wantTie 120 = .ok (.iaload, 1) := by decide +kernel
theorem dX7_wantTie_121 : decode cX7_wantTie 121 = .ok (.iconst 1, 1) := by decide +kernel
theorem dX7_wantTie_122 : decode cX7_wantTie 122 = .ok (.iadd, 1) := by decide +kernel
theorem dX7_wantTie_123 : decode cX7_wantTie 123 = .ok (.iastore, 1) := by decide +kernel
theorem dX7_wantTie_124 : decode cX7_wantTie 124 = .ok (.return_, 1) := by decide +kernel
theorem dX7_wantTie_125 : decode cX7_wantTie 125 = .ok (.iinc 9 1, 3) := by decide +kernel
theorem dX7_wantTie_128 : decode cX7_wantTie 128 = .ok (.goto (-90), 3) := by decide +kernel
theorem dX7_wantTie_131 : decode cX7_wantTie 131 = .ok (.aload_n 0, 1) := by decide +kernel
theorem dX7_wantTie_132 : decode cX7_wantTie 132 = .ok (.getfield 9, 3) := by decide +kernel
theorem dX7_wantTie_135 : decode cX7_wantTie 135 = .ok (.iload 5, 2) := by decide +kernel
theorem dX7_wantTie_137 : decode cX7_wantTie 137 = .ok (.iaload, 1) := by decide +kernel
theorem dX7_wantTie_138 : decode cX7_wantTie 138 = .ok (.bipush 16, 2) := by decide +kernel
theorem dX7_wantTie_140 : decode cX7_wantTie 140 = .ok (.if_icmp .ge 82, 3) := by decide +kernel
theorem dX7_wantTie_143 : decode cX7_wantTie 143 = .ok (.aload_n 0, 1) := by decide +kernel
theorem dX7_wantTie_144 : decode cX7_wantTie 144 = .ok (.getfield 9, 3) := by decide +kernel
theorem dX7_wantTie_147 : decode cX7_wantTie 147 = .ok (.iload 5, 2) := by decide +kernel
theorem dX7_wantTie_149 : decode cX7_wantTie 149 = .ok (.iaload, 1) := by decide +kernel
theorem dX7_wantTie_150 : decode cX7_wantTie 150 = .ok (.istore 9, 2) := by decide +kernel
theorem dX7_wantTie_152 : decode cX7_wantTie 152 = .ok (.aload_n 0, 1) := by decide +kernel
theorem dX7_wantTie_153 : decode cX7_wantTie 153 = .ok (.getfield 17, 3) := by decide +kernel
theorem dX7_wantTie_156 : decode cX7_wantTie 156 = .ok (.iload 5, 2) := by decide +kernel
theorem dX7_wantTie_158 : decode cX7_wantTie 158 = .ok (.aaload, 1) := by decide +kernel
theorem dX7_wantTie_159 : decode cX7_wantTie 159 = .ok (.iload 9, 2) := by decide +kernel
theorem dX7_wantTie_161 : decode cX7_wantTie 161 = .ok (.iload 6, 2) := by decide +kernel
theorem dX7_wantTie_163 : decode cX7_wantTie 163 = .ok (.iastore, 1) := by decide +kernel
theorem dX7_wantTie_164 : decode cX7_wantTie 164 = .ok (.aload_n 0, 1) := by decide +kernel
theorem dX7_wantTie_165 : decode cX7_wantTie 165 = .ok (.getfield 20, 3) := by decide +kernel
theorem dX7_wantTie_168 : decode cX7_wantTie 168 = .ok (.iload 5, 2) := by decide +kernel
theorem dX7_wantTie_170 : decode cX7_wantTie 170 = .ok (.aaload, 1) := by decide +kernel
theorem dX7_wantTie_171 : decode cX7_wantTie 171 = .ok (.iload 9, 2) := by decide +kernel
theorem dX7_wantTie_173 : decode cX7_wantTie 173 = .ok (.iload 7, 2) := by decide +kernel
theorem dX7_wantTie_175 : decode cX7_wantTie 175 = .ok (.iastore, 1) := by decide +kernel
theorem dX7_wantTie_176 : decode cX7_wantTie 176 = .ok (.aload_n 0, 1) := by decide +kernel
theorem dX7_wantTie_177 : decode cX7_wantTie 177 = .ok (.getfield 23, 3) := by decide +kernel
theorem dX7_wantTie_180 : decode cX7_wantTie 180 = .ok (.iload 5, 2) := by decide +kernel
theorem dX7_wantTie_182 : decode cX7_wantTie 182 = .ok (.aaload, 1) := by decide +kernel
theorem dX7_wantTie_183 : decode cX7_wantTie 183 = .ok (.iload 9, 2) := by decide +kernel
theorem dX7_wantTie_185 : decode cX7_wantTie 185 = .ok (.iload 8, 2) := by decide +kernel
theorem dX7_wantTie_187 : decode cX7_wantTie 187 = .ok (.iastore, 1) := by decide +kernel
theorem dX7_wantTie_188 : decode cX7_wantTie 188 = .ok (.aload_n 0, 1) := by decide +kernel
theorem dX7_wantTie_189 : decode cX7_wantTie 189 = .ok (.getfield 26, 3) := by decide +kernel
theorem dX7_wantTie_192 : decode cX7_wantTie 192 = .ok (.iload 5, 2) := by decide +kernel
theorem dX7_wantTie_194 : decode cX7_wantTie 194 = .ok (.aaload, 1) := by decide +kernel
theorem dX7_wantTie_195 : decode cX7_wantTie 195 = .ok (.iload 9, 2) := by decide +kernel
theorem dX7_wantTie_197 : decode cX7_wantTie 197 = .ok (.iload 4, 2) := by decide +kernel
theorem dX7_wantTie_199 : decode cX7_wantTie 199 = .ok (.iastore, 1) := by decide +kernel
theorem dX7_wantTie_200 : decode cX7_wantTie 200 = .ok (.aload_n 0, 1) := by decide +kernel
theorem dX7_wantTie_201 : decode cX7_wantTie 201 = .ok (.getfield 29, 3) := by decide +kernel
theorem dX7_wantTie_204 : decode cX7_wantTie 204 = .ok (.iload 5, 2) := by decide +kernel
theorem dX7_wantTie_206 : decode cX7_wantTie 206 = .ok (.aaload, 1) := by decide +kernel
theorem dX7_wantTie_207 : decode cX7_wantTie 207 = .ok (.iload 9, 2) := by decide +kernel
theorem dX7_wantTie_209 : decode cX7_wantTie 209 = .ok (.iconst 1, 1) := by decide +kernel
theorem dX7_wantTie_210 : decode cX7_wantTie 210 = .ok (.iastore, 1) := by decide +kernel
theorem dX7_wantTie_211 : decode cX7_wantTie 211 = .ok (.aload_n 0, 1) := by decide +kernel
theorem dX7_wantTie_212 : decode cX7_wantTie 212 = .ok (.getfield 9, 3) := by decide +kernel
theorem dX7_wantTie_215 : decode cX7_wantTie 215 = .ok (.iload 5, 2) := by decide +kernel
theorem dX7_wantTie_217 : decode cX7_wantTie 217 = .ok (.dup2, 1) := by decide +kernel
theorem dX7_wantTie_218 : decode cX7_wantTie 218 = .ok (.iaload, 1) := by decide +kernel
theorem dX7_wantTie_219 : decode cX7_wantTie 219 = .ok (.iconst 1, 1) := by decide +kernel
theorem dX7_wantTie_220 : decode cX7_wantTie 220 = .ok (.iadd, 1) := by decide +kernel
theorem dX7_wantTie_221 : decode cX7_wantTie 221 = .ok (.iastore, 1) := by decide +kernel
theorem dX7_wantTie_222 : decode cX7_wantTie 222 = .ok (.return_, 1) := by decide +kernel
theorem dX7_seatOf_0 : decode cX7_seatOf 0 = .ok (.iload_n 0, 1) := by decide +kernel
theorem dX7_seatOf_1 : decode cX7_seatOf 1 = .ok (.ifCond .ge 5, 3) := by decide +kernel
theorem dX7_seatOf_4 : decode cX7_seatOf 4 = .ok (.iconst 0, 1) := by decide +kernel
theorem dX7_seatOf_5 : decode cX7_seatOf 5 = .ok (.ireturn, 1) := by decide +kernel
theorem dX7_seatOf_6 : decode cX7_seatOf 6 = .ok (.iload_n 0, 1) := by decide +kernel
theorem dX7_seatOf_7 : decode cX7_seatOf 7 = .ok (.iload_n 1, 1) := by decide +kernel
theorem dX7_seatOf_8 : decode cX7_seatOf 8 = .ok (.if_icmp .ne 7, 3) := by decide +kernel
theorem dX7_seatOf_11 : decode cX7_seatOf 11 = .ok (.iconst 2, 1) := by decide +kernel
theorem dX7_seatOf_12 : decode cX7_seatOf 12 = .ok (.goto 4, 3) := by decide +kernel
theorem dX7_seatOf_15 : decode cX7_seatOf 15 = .ok (.iconst 1, 1) := by decide +kernel
theorem dX7_seatOf_16 : decode cX7_seatOf 16 = .ok (.ireturn, 1) := by decide +kernel
theorem dX7_unlikeTies_0 : decode cX7_unlikeTies 0 = .ok (.aload_n 0, 1) := by decide +kernel
theorem dX7_unlikeTies_1 : decode cX7_unlikeTies 1 = .ok (.getfield 44, 3) := by decide +kernel
theorem dX7_unlikeTies_4 : decode cX7_unlikeTies 4 = .ok (.iconst 1, 1) := by decide +kernel
theorem dX7_unlikeTies_5 : decode cX7_unlikeTies 5 = .ok (.iload_n 2, 1) := by decide +kernel
theorem dX7_unlikeTies_6 : decode cX7_unlikeTies 6 = .ok (.iastore, 1) := by decide +kernel
theorem dX7_unlikeTies_7 : decode cX7_unlikeTies 7 = .ok (.aload_n 0, 1) := by decide +kernel
theorem dX7_unlikeTies_8 : decode cX7_unlikeTies 8 = .ok (.getfield 44, 3) := by decide +kernel
theorem dX7_unlikeTies_11 : decode cX7_unlikeTies 11 = .ok (.iconst 2, 1) := by decide +kernel
theorem dX7_unlikeTies_12 : decode cX7_unlikeTies 12 = .ok (.iload_n 3, 1) := by decide +kernel
theorem dX7_unlikeTies_13 : decode cX7_unlikeTies 13 = .ok (.iastore, 1) := by decide +kernel
theorem dX7_unlikeTies_14 : decode cX7_unlikeTies 14 = .ok (.iconst 0, 1) := by decide +kernel
theorem dX7_unlikeTies_15 : decode cX7_unlikeTies 15 = .ok (.istore 4, 2) := by decide +kernel
theorem dX7_unlikeTies_17 : decode cX7_unlikeTies 17 = .ok (.iconst 0, 1) := by decide +kernel
theorem dX7_unlikeTies_18 : decode cX7_unlikeTies 18 = .ok (.istore 5, 2) := by decide +kernel
theorem dX7_unlikeTies_20 : decode cX7_unlikeTies 20 = .ok (.iload 5, 2) := by decide +kernel
theorem dX7_unlikeTies_22 : decode cX7_unlikeTies 22 = .ok (.aload_n 0, 1) := by decide +kernel
theorem dX7_unlikeTies_23 : decode cX7_unlikeTies 23 = .ok (.getfield 9, 3) := by decide +kernel
theorem dX7_unlikeTies_26 : decode cX7_unlikeTies 26 = .ok (.iload_n 1, 1) := by decide +kernel
theorem dX7_unlikeTies_27 : decode cX7_unlikeTies 27 = .ok (.iaload, 1) := by decide +kernel
theorem dX7_unlikeTies_28 : decode cX7_unlikeTies 28 = .ok (.if_icmp .ge 92, 3) := by decide +kernel
theorem dX7_unlikeTies_31 : decode cX7_unlikeTies 31 = .ok (.aload_n 0, 1) := by decide +kernel
theorem dX7_unlikeTies_32 : decode cX7_unlikeTies 32 = .ok (.getfield 47, 3) := by decide +kernel
theorem dX7_unlikeTies_35 : decode cX7_unlikeTies 35 = .ok (.aload_n 0, 1) := by decide +kernel
theorem dX7_unlikeTies_36 : decode cX7_unlikeTies 36 = .ok (.getfield 44, 3) := by decide +kernel
theorem dX7_unlikeTies_39 : decode cX7_unlikeTies 39 = .ok (.aload_n 0, 1) := by decide +kernel
theorem dX7_unlikeTies_40 : decode cX7_unlikeTies 40 = .ok (.getfield 17, 3) := by decide +kernel
theorem dX7_unlikeTies_43 : decode cX7_unlikeTies 43 = .ok (.iload_n 1, 1) := by decide +kernel
theorem dX7_unlikeTies_44 : decode cX7_unlikeTies 44 = .ok (.aaload, 1) := by decide +kernel
theorem dX7_unlikeTies_45 : decode cX7_unlikeTies 45 = .ok (.iload 5, 2) := by decide +kernel
theorem dX7_unlikeTies_47 : decode cX7_unlikeTies 47 = .ok (.iaload, 1) := by decide +kernel
theorem dX7_unlikeTies_48 : decode cX7_unlikeTies 48 = .ok (.iaload, 1) := by decide +kernel
theorem dX7_unlikeTies_49 : decode cX7_unlikeTies 49 = .ok (.aload_n 0, 1) := by decide +kernel
theorem dX7_unlikeTies_50 : decode cX7_unlikeTies 50 = .ok (.getfield 44, 3) := by decide +kernel
theorem dX7_unlikeTies_53 : decode cX7_unlikeTies 53 = .ok (.aload_n 0, 1) := by decide +kernel
theorem dX7_unlikeTies_54 : decode cX7_unlikeTies 54 = .ok (.getfield 20, 3) := by decide +kernel
theorem dX7_unlikeTies_57 : decode cX7_unlikeTies 57 = .ok (.iload_n 1, 1) := by decide +kernel
theorem dX7_unlikeTies_58 : decode cX7_unlikeTies 58 = .ok (.aaload, 1) := by decide +kernel
theorem dX7_unlikeTies_59 : decode cX7_unlikeTies 59 = .ok (.iload 5, 2) := by decide +kernel
theorem dX7_unlikeTies_61 : decode cX7_unlikeTies 61 = .ok (.iaload, 1) := by decide +kernel
theorem dX7_unlikeTies_62 : decode cX7_unlikeTies 62 = .ok (.iaload, 1) := by decide +kernel
theorem dX7_unlikeTies_63 : decode cX7_unlikeTies 63 = .ok (.aload_n 0, 1) := by decide +kernel
theorem dX7_unlikeTies_64 : decode cX7_unlikeTies 64 = .ok (.getfield 44, 3) := by decide +kernel
theorem dX7_unlikeTies_67 : decode cX7_unlikeTies 67 = .ok (.aload_n 0, 1) := by decide +kernel
theorem dX7_unlikeTies_68 : decode cX7_unlikeTies 68 = .ok (.getfield 23, 3) := by decide +kernel
theorem dX7_unlikeTies_71 : decode cX7_unlikeTies 71 = .ok (.iload_n 1, 1) := by decide +kernel
theorem dX7_unlikeTies_72 : decode cX7_unlikeTies 72 = .ok (.aaload, 1) := by decide +kernel
theorem dX7_unlikeTies_73 : decode cX7_unlikeTies 73 = .ok (.iload 5, 2) := by decide +kernel
theorem dX7_unlikeTies_75 : decode cX7_unlikeTies 75 = .ok (.iaload, 1) := by decide +kernel
theorem dX7_unlikeTies_76 : decode cX7_unlikeTies 76 = .ok (.iaload, 1) := by decide +kernel
theorem dX7_unlikeTies_77 : decode cX7_unlikeTies 77 = .ok (.invokevirtual 72, 3) := by decide +kernel
theorem dX7_unlikeTies_80 : decode cX7_unlikeTies 80 = .ok (.istore 6, 2) := by decide +kernel
theorem dX7_unlikeTies_82 : decode cX7_unlikeTies 82 = .ok (.iload 4, 2) := by decide +kernel
theorem dX7_unlikeTies_84 : decode cX7_unlikeTies 84 = .ok (.iload 6, 2) := by decide +kernel
theorem dX7_unlikeTies_86 : decode cX7_unlikeTies 86 = .ok (.aload_n 0, 1) := by decide +kernel
theorem dX7_unlikeTies_87 : decode cX7_unlikeTies 87 = .ok (.getfield 26, 3) := by decide +kernel
theorem dX7_unlikeTies_90 : decode cX7_unlikeTies 90 = .ok (.iload_n 1, 1) := by decide +kernel
theorem dX7_unlikeTies_91 : decode cX7_unlikeTies 91 = .ok (.aaload, 1) := by decide +kernel
theorem dX7_unlikeTies_92 : decode cX7_unlikeTies 92 = .ok (.iload 5, 2) := by decide +kernel
theorem dX7_unlikeTies_94 : decode cX7_unlikeTies 94 = .ok (.iaload, 1) := by decide +kernel
theorem dX7_unlikeTies_95 : decode cX7_unlikeTies 95 = .ok (.if_icmp .ne 7, 3) := by decide +kernel
theorem dX7_unlikeTies_98 : decode cX7_unlikeTies 98 = .ok (.iconst 0, 1) := by decide +kernel
theorem dX7_unlikeTies_99 : decode cX7_unlikeTies 99 = .ok (.goto 12, 3) := by decide +kernel
theorem dX7_unlikeTies_102 : decode cX7_unlikeTies 102 = .ok (.aload_n 0, 1) := by decide +kernel
theorem dX7_unlikeTies_103 : decode cX7_unlikeTies 103 = .ok (.getfield 29, 3) := by decide +kernel
theorem dX7_unlikeTies_106 : decode cX7_unlikeTies 106 = .ok (.iload_n 1, 1) := by decide +kernel
theorem dX7_unlikeTies_107 : decode cX7_unlikeTies 107 = .ok (.aaload, 1) := by decide +kernel
theorem dX7_unlikeTies_108 : decode cX7_unlikeTies 108 = .ok (.iload 5, 2) := by decide +kernel
theorem dX7_unlikeTies_110 : decode cX7_unlikeTies 110 = .ok (.iaload, 1) := by decide +kernel
theorem dX7_unlikeTies_111 : decode cX7_unlikeTies 111 = .ok (.iadd, 1) := by decide +kernel
theorem dX7_unlikeTies_112 : decode cX7_unlikeTies 112 = .ok (.istore 4, 2) := by decide +kernel
theorem dX7_unlikeTies_114 : decode cX7_unlikeTies 114 = .ok (.iinc 5 1, 3) := by decide +kernel
theorem dX7_unlikeTies_117 : decode cX7_unlikeTies 117 = .ok (.goto (-97), 3) := by decide +kernel
theorem dX7_unlikeTies_120 : decode cX7_unlikeTies 120 = .ok (.iload 4, 2) := by decide +kernel
theorem dX7_unlikeTies_122 : decode cX7_unlikeTies 122 = .ok (.ireturn, 1) := by decide +kernel
theorem dX7_spansAt_0 : decode cX7_spansAt 0 = .ok (.aload_n 0, 1) := by decide +kernel
theorem dX7_spansAt_1 : decode cX7_spansAt 1 = .ok (.getfield 32, 3) := by decide +kernel
theorem dX7_spansAt_4 : decode cX7_spansAt 4 = .ok (.iload_n 1, 1) := by decide +kernel
theorem dX7_spansAt_5 : decode cX7_spansAt 5 = .ok (.iaload, 1) := by decide +kernel
theorem dX7_spansAt_6 : decode cX7_spansAt 6 = .ok (.ireturn, 1) := by decide +kernel
theorem dX7_rightHalves_0 : decode cX7_rightHalves 0 = .ok (.bipush 17, 2) := by decide +kernel
theorem dX7_rightHalves_2 : decode cX7_rightHalves 2 = .ok (.iload 4, 2) := by decide +kernel
theorem dX7_rightHalves_4 : decode cX7_rightHalves 4 = .ok (.imul, 1) := by decide +kernel
theorem dX7_rightHalves_5 : decode cX7_rightHalves 5 = .ok (.iload_n 3, 1) := by decide +kernel
theorem dX7_rightHalves_6 : decode cX7_rightHalves 6 = .ok (.iadd, 1) := by decide +kernel
theorem dX7_rightHalves_7 : decode cX7_rightHalves 7 = .ok (.istore 5, 2) := by decide +kernel
theorem dX7_rightHalves_9 : decode cX7_rightHalves 9 = .ok (.iconst 0, 1) := by decide +kernel
theorem dX7_rightHalves_10 : decode cX7_rightHalves 10 = .ok (.istore 6, 2) := by decide +kernel
theorem dX7_rightHalves_12 : decode cX7_rightHalves 12 = .ok (.iconst 0, 1) := by decide +kernel
theorem dX7_rightHalves_13 : decode cX7_rightHalves 13 = .ok (.istore 7, 2) := by decide +kernel
theorem dX7_rightHalves_15 : decode cX7_rightHalves 15 = .ok (.iload 7, 2) := by decide +kernel
theorem dX7_rightHalves_17 : decode cX7_rightHalves 17 = .ok (.aload_n 0, 1) := by decide +kernel
theorem dX7_rightHalves_18 : decode cX7_rightHalves 18 = .ok (.getfield 32, 3) := by decide +kernel
theorem dX7_rightHalves_21 : decode cX7_rightHalves 21 = .ok (.iload_n 1, 1) := by decide +kernel
theorem dX7_rightHalves_22 : decode cX7_rightHalves 22 = .ok (.iaload, 1) := by decide +kernel
theorem dX7_rightHalves_23 : decode cX7_rightHalves 23 = .ok (.if_icmp .ge 109, 3) := by decide +kernel
theorem dX7_rightHalves_26 : decode cX7_rightHalves 26 = .ok (.aload_n 0, 1) := by decide +kernel
theorem dX7_rightHalves_27 : decode cX7_rightHalves 27 = .ok (.getfield 38, 3) := by decide +kernel
theorem dX7_rightHalves_30 : decode cX7_rightHalves 30 = .ok (.iload_n 1, 1) := by decide +kernel
theorem dX7_rightHalves_31 : decode cX7_rightHalves 31 = .ok (.aaload, 1) := by decide +kernel
theorem dX7_rightHalves_32 : decode cX7_rightHalves 32 = .ok (.iload 7, 2) := by decide +kernel
theorem dX7_rightHalves_34 : decode cX7_rightHalves 34 = .ok (.iaload, 1) := by decide +kernel
theorem dX7_rightHalves_35 : decode cX7_rightHalves 35 = .ok (.bipush 8, 2) := by decide +kernel
theorem dX7_rightHalves_37 : decode cX7_rightHalves 37 = .ok (.irem, 1) := by decide +kernel
theorem dX7_rightHalves_38 : decode cX7_rightHalves 38 = .ok (.istore 8, 2) := by decide +kernel
theorem dX7_rightHalves_40 : decode cX7_rightHalves 40 = .ok (.aload_n 0, 1) := by decide +kernel
theorem dX7_rightHalves_41 : decode cX7_rightHalves 41 = .ok (.getfield 35, 3) := by decide +kernel
theorem dX7_rightHalves_44 : decode cX7_rightHalves 44 = .ok (.iload_n 1, 1) := by decide +kernel
theorem dX7_rightHalves_45 : decode cX7_rightHalves 45 = .ok (.aaload, 1) := by decide +kernel
theorem dX7_rightHalves_46 : decode cX7_rightHalves 46 = .ok (.iload 7, 2) := by decide +kernel
theorem dX7_rightHalves_48 : decode cX7_rightHalves 48 = .ok (.iaload, 1) := by decide +kernel
theorem dX7_rightHalves_49 : decode cX7_rightHalves 49 = .ok (.iload_n 2, 1) := by decide +kernel
theorem dX7_rightHalves_50 : decode cX7_rightHalves 50 = .ok (.if_icmp .ne 36, 3) := by decide +kernel
theorem dX7_rightHalves_53 : decode cX7_rightHalves 53 = .ok (.aload_n 0, 1) := by decide +kernel
theorem dX7_rightHalves_54 : decode cX7_rightHalves 54 = .ok (.getfield 47, 3) := by decide +kernel
theorem dX7_rightHalves_57 : decode cX7_rightHalves 57 = .ok (.getfield 78, 3) := by decide +kernel
theorem dX7_rightHalves_60 : decode cX7_rightHalves 60 = .ok (.iload 5, 2) := by decide +kernel
theorem dX7_rightHalves_62 : decode cX7_rightHalves 62 = .ok (.iaload, 1) := by decide +kernel
theorem dX7_rightHalves_63 : decode cX7_rightHalves 63 = .ok (.aload_n 0, 1) := by decide +kernel
theorem dX7_rightHalves_64 : decode cX7_rightHalves 64 = .ok (.getfield 38, 3) := by decide +kernel
theorem dX7_rightHalves_67 : decode cX7_rightHalves 67 = .ok (.iload_n 1, 1) := by decide +kernel
theorem dX7_rightHalves_68 : decode cX7_rightHalves 68 = .ok (.aaload, 1) := by decide +kernel
theorem dX7_rightHalves_69 : decode cX7_rightHalves 69 = .ok (.iload 7, 2) := by decide +kernel
theorem dX7_rightHalves_71 : decode cX7_rightHalves 71 = .ok (.iaload, 1) := by decide +kernel
theorem dX7_rightHalves_72 : decode cX7_rightHalves 72 = .ok (.iload 8, 2) := by decide +kernel
theorem dX7_rightHalves_74 : decode cX7_rightHalves 74 = .ok (.isub, 1) := by decide +kernel
theorem dX7_rightHalves_75 : decode cX7_rightHalves 75 = .ok (.if_icmp .ne 7, 3) := by decide +kernel
theorem dX7_rightHalves_78 : decode cX7_rightHalves 78 = .ok (.iconst 1, 1) := by decide +kernel
theorem dX7_rightHalves_79 : decode cX7_rightHalves 79 = .ok (.goto 27, 3) := by decide +kernel
theorem dX7_rightHalves_82 : decode cX7_rightHalves 82 = .ok (.iconst 0, 1) := by decide +kernel
theorem dX7_rightHalves_83 : decode cX7_rightHalves 83 = .ok (.goto 23, 3) := by decide +kernel
theorem dX7_rightHalves_86 : decode cX7_rightHalves 86 = .ok (.aload_n 0, 1) := by decide +kernel
theorem dX7_rightHalves_87 : decode cX7_rightHalves 87 = .ok (.getfield 47, 3) := by decide +kernel
theorem dX7_rightHalves_90 : decode cX7_rightHalves 90 = .ok (.getfield 81, 3) := by decide +kernel
theorem dX7_rightHalves_93 : decode cX7_rightHalves 93 = .ok (.iload 5, 2) := by decide +kernel
theorem dX7_rightHalves_95 : decode cX7_rightHalves 95 = .ok (.iaload, 1) := by decide +kernel
theorem dX7_rightHalves_96 : decode cX7_rightHalves 96 = .ok (.iload 8, 2) := by decide +kernel
theorem dX7_rightHalves_98 : decode cX7_rightHalves 98 = .ok (.if_icmp .ne 7, 3) := by decide +kernel
theorem dX7_rightHalves_101 : decode cX7_rightHalves 101 = .ok (.iconst 1, 1) := by decide +kernel
theorem dX7_rightHalves_102 : decode cX7_rightHalves 102 = .ok (.goto 4, 3) := by decide +kernel
theorem dX7_rightHalves_105 : decode cX7_rightHalves 105 = .ok (.iconst 0, 1) := by decide +kernel
theorem dX7_rightHalves_106 : decode cX7_rightHalves 106 = .ok (.istore 9, 2) := by decide +kernel
theorem dX7_rightHalves_108 : decode cX7_rightHalves 108 = .ok (.iload 6, 2) := by decide +kernel
theorem dX7_rightHalves_110 : decode cX7_rightHalves 110 = .ok (.iload 9, 2) := by decide +kernel
theorem dX7_rightHalves_112 : decode cX7_rightHalves 112 = .ok (.ifCond .eq 10, 3) := by decide +kernel
theorem dX7_rightHalves_115 : decode cX7_rightHalves 115 = .ok (.iconst 1, 1) := by decide +kernel
theorem dX7_rightHalves_116 : decode cX7_rightHalves 116 = .ok (.iload 7, 2) := by decide +kernel
theorem dX7_rightHalves_118 : decode cX7_rightHalves 118 = .ok (.ishl, 1) := by decide +kernel
theorem dX7_rightHalves_119 : decode cX7_rightHalves 119 = .ok (.goto 4, 3) := by decide +kernel
theorem dX7_rightHalves_122 : decode cX7_rightHalves 122 = .ok (.iconst 0, 1) := by decide +kernel
theorem dX7_rightHalves_123 : decode cX7_rightHalves 123 = .ok (.ior, 1) := by decide +kernel
theorem dX7_rightHalves_124 : decode cX7_rightHalves 124 = .ok (.istore 6, 2) := by decide +kernel
theorem dX7_rightHalves_126 : decode cX7_rightHalves 126 = .ok (.iinc 7 1, 3) := by decide +kernel
theorem dX7_rightHalves_129 : decode cX7_rightHalves 129 = .ok (.goto (-114), 3) := by decide +kernel
theorem dX7_rightHalves_132 : decode cX7_rightHalves 132 = .ok (.iload 6, 2) := by decide +kernel
theorem dX7_rightHalves_134 : decode cX7_rightHalves 134 = .ok (.ireturn, 1) := by decide +kernel
theorem dX7_unlikeSpans_0 : decode cX7_unlikeSpans 0 = .ok (.iconst 0, 1) := by decide +kernel
theorem dX7_unlikeSpans_1 : decode cX7_unlikeSpans 1 = .ok (.istore_n 3, 1) := by decide +kernel
theorem dX7_unlikeSpans_2 : decode cX7_unlikeSpans 2 = .ok (.iconst 0, 1) := by decide +kernel
theorem dX7_unlikeSpans_3 : decode cX7_unlikeSpans 3 = .ok (.istore 4, 2) := by decide +kernel
theorem dX7_unlikeSpans_5 : decode cX7_unlikeSpans 5 = .ok (.iload 4, 2) := by decide +kernel
theorem dX7_unlikeSpans_7 : decode cX7_unlikeSpans 7 = .ok (.aload_n 0, 1) := by decide +kernel
theorem dX7_unlikeSpans_8 : decode cX7_unlikeSpans 8 = .ok (.getfield 32, 3) := by decide +kernel
theorem dX7_unlikeSpans_11 : decode cX7_unlikeSpans 11 = .ok (.iload_n 1, 1) := by decide +kernel
theorem dX7_unlikeSpans_12 : decode cX7_unlikeSpans 12 = .ok (.iaload, 1) := by decide +kernel
theorem dX7_unlikeSpans_13 : decode cX7_unlikeSpans 13 = .ok (.if_icmp .ge 35, 3) := by decide +kernel
theorem dX7_unlikeSpans_16 : decode cX7_unlikeSpans 16 = .ok (.iload_n 3, 1) := by decide +kernel
theorem dX7_unlikeSpans_17 : decode cX7_unlikeSpans 17 = .ok (.iload_n 2, 1) := by decide +kernel
theorem dX7_unlikeSpans_18 : decode cX7_unlikeSpans 18 = .ok (.iload 4, 2) := by decide +kernel
theorem dX7_unlikeSpans_20 : decode cX7_unlikeSpans 20 = .ok (.ishr, 1) := by decide +kernel
theorem dX7_unlikeSpans_21 : decode cX7_unlikeSpans 21 = .ok (.iconst 1, 1) := by decide +kernel
theorem dX7_unlikeSpans_22 : decode cX7_unlikeSpans 22 = .ok (.iand, 1) := by decide +kernel
theorem dX7_unlikeSpans_23 : decode cX7_unlikeSpans 23 = .ok (.iconst 1, 1) := by decide +kernel
theorem dX7_unlikeSpans_24 : decode cX7_unlikeSpans 24 = .ok (.if_icmp .ne 7, 3) := by decide +kernel
theorem dX7_unlikeSpans_27 : decode cX7_unlikeSpans 27 = .ok (.iconst 0, 1) := by decide +kernel
theorem dX7_unlikeSpans_28 : decode cX7_unlikeSpans 28 = .ok (.goto 12, 3) := by decide +kernel
theorem dX7_unlikeSpans_31 : decode cX7_unlikeSpans 31 = .ok (.aload_n 0, 1) := by decide +kernel
theorem dX7_unlikeSpans_32 : decode cX7_unlikeSpans 32 = .ok (.getfield 41, 3) := by decide +kernel
theorem dX7_unlikeSpans_35 : decode cX7_unlikeSpans 35 = .ok (.iload_n 1, 1) := by decide +kernel
theorem dX7_unlikeSpans_36 : decode cX7_unlikeSpans 36 = .ok (.aaload, 1) := by decide +kernel
theorem dX7_unlikeSpans_37 : decode cX7_unlikeSpans 37 = .ok (.iload 4, 2) := by decide +kernel
theorem dX7_unlikeSpans_39 : decode cX7_unlikeSpans 39 = .ok (.iaload, 1) := by decide +kernel
theorem dX7_unlikeSpans_40 : decode cX7_unlikeSpans 40 = .ok (.iadd, 1) := by decide +kernel
theorem dX7_unlikeSpans_41 : decode cX7_unlikeSpans 41 = .ok (.istore_n 3, 1) := by decide +kernel
theorem dX7_unlikeSpans_42 : decode cX7_unlikeSpans 42 = .ok (.iinc 4 1, 3) := by decide +kernel
theorem dX7_unlikeSpans_45 : decode cX7_unlikeSpans 45 = .ok (.goto (-40), 3) := by decide +kernel
theorem dX7_unlikeSpans_48 : decode cX7_unlikeSpans 48 = .ok (.iload_n 3, 1) := by decide +kernel
theorem dX7_unlikeSpans_49 : decode cX7_unlikeSpans 49 = .ok (.ireturn, 1) := by decide +kernel
theorem dX8_init_0 : decode cX8_init 0 = .ok (.aload_n 0, 1) := by decide +kernel
theorem dX8_init_1 : decode cX8_init 1 = .ok (.invokespecial 3, 3) := by decide +kernel
theorem dX8_init_4 : decode cX8_init 4 = .ok (.aload_n 0, 1) := by decide +kernel
theorem dX8_init_5 : decode cX8_init 5 = .ok (.new 9, 3) := by decide +kernel
theorem dX8_init_8 : decode cX8_init 8 = .ok (.dup, 1) := by decide +kernel
theorem dX8_init_9 : decode cX8_init 9 = .ok (.invokespecial 11, 3) := by decide +kernel
theorem dX8_init_12 : decode cX8_init 12 = .ok (.putfield 12, 3) := by decide +kernel
theorem dX8_init_15 : decode cX8_init 15 = .ok (.aload_n 0, 1) := by decide +kernel
theorem dX8_init_16 : decode cX8_init 16 = .ok (.new 16, 3) := by decide +kernel
theorem dX8_init_19 : decode cX8_init 19 = .ok (.dup, 1) := by decide +kernel
theorem dX8_init_20 : decode cX8_init 20 = .ok (.invokespecial 18, 3) := by decide +kernel
theorem dX8_init_23 : decode cX8_init 23 = .ok (.putfield 19, 3) := by decide +kernel
theorem dX8_init_26 : decode cX8_init 26 = .ok (.aload_n 0, 1) := by decide +kernel
theorem dX8_init_27 : decode cX8_init 27 = .ok (.new 16, 3) := by decide +kernel
theorem dX8_init_30 : decode cX8_init 30 = .ok (.dup, 1) := by decide +kernel
theorem dX8_init_31 : decode cX8_init 31 = .ok (.invokespecial 18, 3) := by decide +kernel
theorem dX8_init_34 : decode cX8_init 34 = .ok (.putfield 23, 3) := by decide +kernel
theorem dX8_init_37 : decode cX8_init 37 = .ok (.aload_n 0, 1) := by decide +kernel
theorem dX8_init_38 : decode cX8_init 38 = .ok (.new 26, 3) := by decide +kernel
theorem dX8_init_41 : decode cX8_init 41 = .ok (.dup, 1) := by decide +kernel
theorem dX8_init_42 : decode cX8_init 42 = .ok (.invokespecial 28, 3) := by decide +kernel
theorem dX8_init_45 : decode cX8_init 45 = .ok (.putfield 29, 3) := by decide +kernel
theorem dX8_init_48 : decode cX8_init 48 = .ok (.aload_n 0, 1) := by decide +kernel
theorem dX8_init_49 : decode cX8_init 49 = .ok (.new 26, 3) := by decide +kernel
theorem dX8_init_52 : decode cX8_init 52 = .ok (.dup, 1) := by decide +kernel
theorem dX8_init_53 : decode cX8_init 53 = .ok (.invokespecial 28, 3) := by decide +kernel
theorem dX8_init_56 : decode cX8_init 56 = .ok (.putfield 33, 3) := by decide +kernel
theorem dX8_init_59 : decode cX8_init 59 = .ok (.aload_n 0, 1) := by decide +kernel
theorem dX8_init_60 : decode cX8_init 60 = .ok (.new 26, 3) := by decide +kernel
theorem dX8_init_63 : decode cX8_init 63 = .ok (.dup, 1) := by decide +kernel
theorem dX8_init_64 : decode cX8_init 64 = .ok (.invokespecial 28, 3) := by decide +kernel
theorem dX8_init_67 : decode cX8_init 67 = .ok (.putfield 36, 3) := by decide +kernel
theorem dX8_init_70 : decode cX8_init 70 = .ok (.aload_n 0, 1) := by decide +kernel
theorem dX8_init_71 : decode cX8_init 71 = .ok (.new 39, 3) := by decide +kernel
theorem dX8_init_74 : decode cX8_init 74 = .ok (.dup, 1) := by decide +kernel
theorem dX8_init_75 : decode cX8_init 75 = .ok (.invokespecial 41, 3) := by decide +kernel
theorem dX8_init_78 : decode cX8_init 78 = .ok (.putfield 42, 3) := by decide +kernel
theorem dX8_init_81 : decode cX8_init 81 = .ok (.aload_n 0, 1) := by decide +kernel
theorem dX8_init_82 : decode cX8_init 82 = .ok (.new 46, 3) := by decide +kernel
theorem dX8_init_85 : decode cX8_init 85 = .ok (.dup, 1) := by decide +kernel
theorem dX8_init_86 : decode cX8_init 86 = .ok (.aload_n 0, 1) := by decide +kernel
theorem dX8_init_87 : decode cX8_init 87 = .ok (.getfield 19, 3) := by decide +kernel
theorem dX8_init_90 : decode cX8_init 90 = .ok (.invokespecial 48, 3) := by decide +kernel
theorem dX8_init_93 : decode cX8_init 93 = .ok (.putfield 51, 3) := by decide +kernel
theorem dX8_init_96 : decode cX8_init 96 = .ok (.aload_n 0, 1) := by decide +kernel
theorem dX8_init_97 : decode cX8_init 97 = .ok (.new 55, 3) := by decide +kernel
theorem dX8_init_100 : decode cX8_init 100 = .ok (.dup, 1) := by decide +kernel
theorem dX8_init_101 : decode cX8_init 101 = .ok (.invokespecial 57, 3) := by decide +kernel
theorem dX8_init_104 : decode cX8_init 104 = .ok (.putfield 58, 3) := by decide +kernel
theorem dX8_init_107 : decode cX8_init 107 = .ok (.aload_n 0, 1) := by decide +kernel
theorem dX8_init_108 : decode cX8_init 108 = .ok (.new 62, 3) := by decide +kernel
theorem dX8_init_111 : decode cX8_init 111 = .ok (.dup, 1) := by decide +kernel
theorem dX8_init_112 : decode cX8_init 112 = .ok (.invokespecial 64, 3) := by decide +kernel
theorem dX8_init_115 : decode cX8_init 115 = .ok (.putfield 65, 3) := by decide +kernel
theorem dX8_init_118 : decode cX8_init 118 = .ok (.aload_n 0, 1) := by decide +kernel
theorem dX8_init_119 : decode cX8_init 119 = .ok (.bipush 8, 2) := by decide +kernel
theorem dX8_init_121 : decode cX8_init 121 = .ok (.newarray .int, 2) := by decide +kernel
theorem dX8_init_123 : decode cX8_init 123 = .ok (.putfield 69, 3) := by decide +kernel
theorem dX8_init_126 : decode cX8_init 126 = .ok (.aload_n 0, 1) := by decide +kernel
theorem dX8_init_127 : decode cX8_init 127 = .ok (.bipush 32, 2) := by decide +kernel
theorem dX8_init_129 : decode cX8_init 129 = .ok (.newarray .int, 2) := by decide +kernel
theorem dX8_init_131 : decode cX8_init 131 = .ok (.putfield 73, 3) := by decide +kernel
theorem dX8_init_134 : decode cX8_init 134 = .ok (.return_, 1) := by decide +kernel
theorem dX8_write_0 : decode cX8_write 0 = .ok (.iload_n 1, 1) := by decide +kernel
theorem dX8_write_1 : decode cX8_write 1 = .ok (.iconst 1, 1) := by decide +kernel
theorem dX8_write_2 : decode cX8_write 2 = .ok (.if_icmp .lt 9, 3) := by decide +kernel
theorem dX8_write_5 : decode cX8_write 5 = .ok (.iload_n 1, 1) := by decide +kernel
theorem dX8_write_6 : decode cX8_write 6 = .ok (.bipush 8, 2) := by decide +kernel
theorem dX8_write_8 : decode cX8_write 8 = .ok (.if_icmp .le 5, 3) := by decide +kernel
theorem dX8_write_11 : decode cX8_write 11 = .ok (.iconst (-1), 1) := by decide +kernel
theorem dX8_write_12 : decode cX8_write 12 = .ok (.ireturn, 1) := by decide +kernel
theorem dX8_write_13 : decode cX8_write 13 = .ok (.aload_n 0, 1) := by decide +kernel
theorem dX8_write_14 : decode cX8_write 14 = .ok (.getfield 12, 3) := by decide +kernel
theorem dX8_write_17 : decode cX8_write 17 = .ok (.iload_n 1, 1) := by decide +kernel
theorem dX8_write_18 : decode cX8_write 18 = .ok (.lload_n 2, 1) := by decide +kernel
theorem dX8_write_19 : decode cX8_write 19 = .ok (.invokevirtual 76, 3) := by decide +kernel
theorem dX8_write_22 : decode cX8_write 22 = .ok (.ireturn, 1) := by decide +kernel
theorem dX8_wipe_0 : decode cX8_wipe 0 = .ok (.aload_n 0, 1) := by decide +kernel
theorem dX8_wipe_1 : decode cX8_wipe 1 = .ok (.getfield 12, 3) := by decide +kernel
theorem dX8_wipe_4 : decode cX8_wipe 4 = .ok (.getfield 80, 3) := by decide +kernel
theorem dX8_wipe_7 : decode cX8_wipe 7 = .ok (.istore_n 1, 1) := by decide +kernel
theorem dX8_wipe_8 : decode cX8_wipe 8 = .ok (.aload_n 0, 1) := by decide +kernel
theorem dX8_wipe_9 : decode cX8_wipe 9 = .ok (.getfield 12, 3) := by decide +kernel
theorem dX8_wipe_12 : decode cX8_wipe 12 = .ok (.iconst 0, 1) := by decide +kernel
theorem dX8_wipe_13 : decode cX8_wipe 13 = .ok (.putfield 80, 3) := by decide +kernel
theorem dX8_wipe_16 : decode cX8_wipe 16 = .ok (.iload_n 1, 1) := by decide +kernel
theorem dX8_wipe_17 : decode cX8_wipe 17 = .ok (.ireturn, 1) := by decide +kernel
theorem dX8_fault_0 : decode cX8_fault 0 = .ok (.aload_n 0, 1) := by decide +kernel
theorem dX8_fault_1 : decode cX8_fault 1 = .ok (.getfield 12, 3) := by decide +kernel
theorem dX8_fault_4 : decode cX8_fault 4 = .ok (.aload_n 0, 1) := by decide +kernel
theorem dX8_fault_5 : decode cX8_fault 5 = .ok (.getfield 23, 3) := by decide +kernel
theorem dX8_fault_8 : decode cX8_fault 8 = .ok (.invokevirtual 84, 3) := by decide +kernel
theorem dX8_fault_11 : decode cX8_fault 11 = .ok (.ireturn, 1) := by decide +kernel
theorem dX8_lay_0 : decode cX8_lay 0 = .ok (.aload_n 0, 1) := by decide +kernel
theorem dX8_lay_1 : decode cX8_lay 1 = .ok (.getfield 12, 3) := by decide +kernel
theorem dX8_lay_4 : decode cX8_lay 4 = .ok (.aload_n 0, 1) := by decide +kernel
theorem dX8_lay_5 : decode cX8_lay 5 = .ok (.getfield 23, 3) := by decide +kernel
theorem dX8_lay_8 : decode cX8_lay 8 = .ok (.invokevirtual 84, 3) := by decide +kernel
theorem dX8_lay_11 : decode cX8_lay 11 = .ok (.bipush (-4), 2) := by decide +kernel
theorem dX8_lay_13 : decode cX8_lay 13 = .ok (.if_icmp .eq 6, 3) := by decide +kernel
theorem dX8_lay_16 : decode cX8_lay 16 = .ok (.bipush (-2), 2) := by decide +kernel
theorem dX8_lay_18 : decode cX8_lay 18 = .ok (.ireturn, 1) := by decide +kernel
theorem dX8_lay_19 : decode cX8_lay 19 = .ok (.aload_n 0, 1) := by decide +kernel
theorem dX8_lay_20 : decode cX8_lay 20 = .ok (.getfield 23, 3) := by decide +kernel
theorem dX8_lay_23 : decode cX8_lay 23 = .ok (.astore_n 1, 1) := by decide +kernel
theorem dX8_lay_24 : decode cX8_lay 24 = .ok (.aload_n 0, 1) := by decide +kernel
theorem dX8_lay_25 : decode cX8_lay 25 = .ok (.aload_n 0, 1) := by decide +kernel
theorem dX8_lay_26 : decode cX8_lay 26 = .ok (.getfield 19, 3) := by decide +kernel
theorem dX8_lay_29 : decode cX8_lay 29 = .ok (.putfield 23, 3) := by decide +kernel
theorem dX8_lay_32 : decode cX8_lay 32 = .ok (.aload_n 0, 1) := by decide +kernel
theorem dX8_lay_33 : decode cX8_lay 33 = .ok (.aload_n 1, 1) := by decide +kernel
theorem dX8_lay_34 : decode cX8_lay 34 = .ok (.putfield 19, 3) := by decide +kernel
theorem dX8_lay_37 : decode cX8_lay 37 = .ok (.aload_n 0, 1) := by decide +kernel
theorem dX8_lay_38 : decode cX8_lay 38 = .ok (.getfield 19, 3) := by decide +kernel
theorem dX8_lay_41 : decode cX8_lay 41 = .ok (.invokevirtual 88, 3) := by decide +kernel
theorem dX8_lay_44 : decode cX8_lay 44 = .ok (.aload_n 0, 1) := by decide +kernel
theorem dX8_lay_45 : decode cX8_lay 45 = .ok (.getfield 29, 3) := by decide +kernel
theorem dX8_lay_48 : decode cX8_lay 48 = .ok (.invokevirtual 91, 3) := by decide +kernel
theorem dX8_lay_51 : decode cX8_lay 51 = .ok (.aload_n 0, 1) := by decide +kernel
theorem dX8_lay_52 : decode cX8_lay 52 = .ok (.getfield 58, 3) := by decide +kernel
theorem dX8_lay_55 : decode cX8_lay 55 = .ok (.iconst 0, 1) := by decide +kernel
theorem dX8_lay_56 : decode cX8_lay 56 = .ok (.putfield 94, 3) := by decide +kernel
theorem dX8_lay_59 : decode cX8_lay 59 = .ok (.aload_n 0, 1) := by decide +kernel
theorem dX8_lay_60 : decode cX8_lay 60 = .ok (.getfield 65, 3) := by decide +kernel
theorem dX8_lay_63 : decode cX8_lay 63 = .ok (.iconst 0, 1) := by decide +kernel
theorem dX8_lay_64 : decode cX8_lay 64 = .ok (.putfield 97, 3) := by decide +kernel
theorem dX8_lay_67 : decode cX8_lay 67 = .ok (.aload_n 0, 1) := by decide +kernel
theorem dX8_lay_68 : decode cX8_lay 68 = .ok (.iconst 0, 1) := by decide +kernel
theorem dX8_lay_69 : decode cX8_lay 69 = .ok (.putfield 98, 3) := by decide +kernel
theorem dX8_lay_72 : decode cX8_lay 72 = .ok (.aload_n 0, 1) := by decide +kernel
theorem dX8_lay_73 : decode cX8_lay 73 = .ok (.getfield 19, 3) := by decide +kernel
theorem dX8_lay_76 : decode cX8_lay 76 = .ok (.getfield 101, 3) := by decide +kernel
theorem dX8_lay_79 : decode cX8_lay 79 = .ok (.ireturn, 1) := by decide +kernel
theorem dX8_joined_0 : decode cX8_joined 0 = .ok (.iload_n 1, 1) := by decide +kernel
theorem dX8_joined_1 : decode cX8_joined 1 = .ok (.bipush 8, 2) := by decide +kernel
theorem dX8_joined_3 : decode cX8_joined 3 = .ok (.invokestatic 104, 3) := by decide +kernel
theorem dX8_joined_6 : decode cX8_joined 6 = .ok (.ifCond .eq 12, 3) := by decide +kernel
theorem dX8_joined_9 : decode cX8_joined 9 = .ok (.iload_n 2, 1) := by decide +kernel
theorem dX8_joined_10 : decode cX8_joined 10 = .ok (.bipush 8, 2) := by decide +kernel
theorem dX8_joined_12 : decode cX8_joined 12 = .ok (.invokestatic 104, 3) := by decide +kernel
theorem dX8_joined_15 : decode cX8_joined 15 = .ok (.ifCond .ne 5, 3) := by decide +kernel
theorem dX8_joined_18 : decode cX8_joined 18 = .ok (.iconst (-1), 1) := by decide +kernel
theorem dX8_joined_19 : decode cX8_joined 19 = .ok (.ireturn, 1) := by decide +kernel
theorem dX8_joined_20 : decode cX8_joined 20 = .ok (.aload_n 0, 1) := by decide +kernel
theorem dX8_joined_21 : decode cX8_joined 21 = .ok (.getfield 19, 3) := by decide +kernel
theorem dX8_joined_24 : decode cX8_joined 24 = .ok (.getfield 108, 3) := by decide +kernel
theorem dX8_joined_27 : decode cX8_joined 27 = .ok (.bipush 8, 2) := by decide +kernel
theorem dX8_joined_29 : decode cX8_joined 29 = .ok (.iload_n 1, 1) := by decide +kernel
theorem dX8_joined_30 : decode cX8_joined 30 = .ok (.imul, 1) := by decide +kernel
theorem dX8_joined_31 : decode cX8_joined 31 = .ok (.iload_n 2, 1) := by decide +kernel
theorem dX8_joined_32 : decode cX8_joined 32 = .ok (.iadd, 1) := by decide +kernel
theorem dX8_joined_33 : decode cX8_joined 33 = .ok (.iaload, 1) := by decide +kernel
theorem dX8_joined_34 : decode cX8_joined 34 = .ok (.ireturn, 1) := by decide +kernel
theorem dX8_add_0 : decode cX8_add 0 = .ok (.iload_n 1, 1) := by decide +kernel
theorem dX8_add_1 : decode cX8_add 1 = .ok (.bipush 6, 2) := by decide +kernel
theorem dX8_add_3 : decode cX8_add 3 = .ok (.invokestatic 104, 3) := by decide +kernel
theorem dX8_add_6 : decode cX8_add 6 = .ok (.ifCond .eq 17, 3) := by decide +kernel
theorem dX8_add_9 : decode cX8_add 9 = .ok (.iload_n 2, 1) := by decide +kernel
theorem dX8_add_10 : decode cX8_add 10 = .ok (.aload_n 0, 1) := by decide +kernel
theorem dX8_add_11 : decode cX8_add 11 = .ok (.getfield 19, 3) := by decide +kernel
theorem dX8_add_14 : decode cX8_add 14 = .ok (.getfield 101, 3) := by decide +kernel
theorem dX8_add_17 : decode cX8_add 17 = .ok (.invokestatic 104, 3) := by decide +kernel
theorem dX8_add_20 : decode cX8_add 20 = .ok (.ifCond .ne 5, 3) := by decide +kernel
theorem dX8_add_23 : decode cX8_add 23 = .ok (.iconst (-1), 1) := by decide +kernel
theorem dX8_add_24 : decode cX8_add 24 = .ok (.ireturn, 1) := by decide +kernel
theorem dX8_add_25 : decode cX8_add 25 = .ok (.aload_n 0, 1) := by decide +kernel
theorem dX8_add_26 : decode cX8_add 26 = .ok (.getfield 29, 3) := by decide +kernel
theorem dX8_add_29 : decode cX8_add 29 = .ok (.getfield 111, 3) := by decide +kernel
theorem dX8_add_32 : decode cX8_add 32 = .ok (.iload_n 1, 1) := by decide +kernel
theorem dX8_add_33 : decode cX8_add 33 = .ok (.iaload, 1) := by decide +kernel
theorem dX8_add_34 : decode cX8_add 34 = .ok (.istore_n 3, 1) := by decide +kernel
theorem dX8_add_35 : decode cX8_add 35 = .ok (.iload_n 3, 1) := by decide +kernel
theorem dX8_add_36 : decode cX8_add 36 = .ok (.bipush 8, 2) := by decide +kernel
theorem dX8_add_38 : decode cX8_add 38 = .ok (.if_icmp .lt 6, 3) := by decide +kernel
theorem dX8_add_41 : decode cX8_add 41 = .ok (.bipush (-3), 2) := by decide +kernel
theorem dX8_add_43 : decode cX8_add 43 = .ok (.ireturn, 1) := by decide +kernel
theorem dX8_add_44 : decode cX8_add 44 = .ok (.aload_n 0, 1) := by decide +kernel
theorem dX8_add_45 : decode cX8_add 45 = .ok (.getfield 29, 3) := by decide +kernel
theorem dX8_add_48 : decode cX8_add 48 = .ok (.getfield 114, 3) := by decide +kernel
theorem dX8_add_51 : decode cX8_add 51 = .ok (.iload_n 1, 1) := by decide +kernel
theorem dX8_add_52 : decode cX8_add 52 = .ok (.aaload, 1) := by decide +kernel
theorem dX8_add_53 : decode cX8_add 53 = .ok (.iload_n 3, 1) := by decide +kernel
theorem dX8_add_54 : decode cX8_add 54 = .ok (.iload_n 2, 1) := by decide +kernel
theorem dX8_add_55 : decode cX8_add 55 = .ok (.iastore, 1) := by decide +kernel
theorem dX8_add_56 : decode cX8_add 56 = .ok (.aload_n 0, 1) := by decide +kernel
theorem dX8_add_57 : decode cX8_add 57 = .ok (.getfield 29, 3) := by decide +kernel
theorem dX8_add_60 : decode cX8_add 60 = .ok (.getfield 111, 3) := by decide +kernel
theorem dX8_add_63 : decode cX8_add 63 = .ok (.iload_n 1, 1) := by decide +kernel
theorem dX8_add_64 : decode cX8_add 64 = .ok (.iload_n 3, 1) := by decide +kernel
theorem dX8_add_65 : decode cX8_add 65 = .ok (.iconst 1, 1) := by decide +kernel
theorem dX8_add_66 : decode cX8_add 66 = .ok (.iadd, 1) := by decide +kernel
theorem dX8_add_67 : decode cX8_add 67 = .ok (.iastore, 1) := by decide +kernel
theorem dX8_add_68 : decode cX8_add 68 = .ok (.iload_n 3, 1) := by decide +kernel
theorem dX8_add_69 : decode cX8_add 69 = .ok (.iconst 1, 1) := by decide +kernel
theorem dX8_add_70 : decode cX8_add 70 = .ok (.iadd, 1) := by decide +kernel
theorem dX8_add_71 : decode cX8_add 71 = .ok (.ireturn, 1) := by decide +kernel
theorem dX8_clear_0 : decode cX8_clear 0 = .ok (.iload_n 1, 1) := by decide +kernel
theorem dX8_clear_1 : decode cX8_clear 1 = .ok (.bipush 6, 2) := by decide +kernel
theorem dX8_clear_3 : decode cX8_clear 3 = .ok (.invokestatic 104, 3) := by decide +kernel
theorem dX8_clear_6 : decode cX8_clear 6 = .ok (.ifCond .ne 5, 3) := by decide +kernel
theorem dX8_clear_9 : decode cX8_clear 9 = .ok (.iconst (-1), 1) := by decide +kernel
theorem dX8_clear_10 : decode cX8_clear 10 = .ok (.ireturn, 1) := by decide +kernel
theorem dX8_clear_11 : decode cX8_clear 11 = .ok (.aload_n 0, 1) := by decide +kernel
theorem dX8_clear_12 : decode cX8_clear 12 = .ok (.getfield 29, 3) := by decide +kernel
theorem dX8_clear_15 : decode cX8_clear 15 = .ok (.getfield 111, 3) := by decide +kernel
theorem dX8_clear_18 : decode cX8_clear 18 = .ok (.iload_n 1, 1) := by decide +kernel
theorem dX8_clear_19 : decode cX8_clear 19 = .ok (.iaload, 1) := by decide +kernel
theorem dX8_clear_20 : decode cX8_clear 20 = .ok (.istore_n 2, 1) := by decide +kernel
theorem dX8_clear_21 : decode cX8_clear 21 = .ok (.aload_n 0, 1) := by decide +kernel
theorem dX8_clear_22 : decode cX8_clear 22 = .ok (.getfield 29, 3) := by decide +kernel
theorem dX8_clear_25 : decode cX8_clear 25 = .ok (.getfield 111, 3) := by decide +kernel
theorem dX8_clear_28 : decode cX8_clear 28 = .ok (.iload_n 1, 1) := by decide +kernel
theorem dX8_clear_29 : decode cX8_clear 29 = .ok (.iconst 0, 1) := by decide +kernel
theorem dX8_clear_30 : decode cX8_clear 30 = .ok (.iastore, 1) := by decide +kernel
theorem dX8_clear_31 : decode cX8_clear 31 = .ok (.iload_n 2, 1) := by decide +kernel
theorem dX8_clear_32 : decode cX8_clear 32 = .ok (.ireturn, 1) := by decide +kernel
theorem dX8_word_0 : decode cX8_word 0 = .ok (.iload_n 1, 1) := by decide +kernel
theorem dX8_word_1 : decode cX8_word 1 = .ok (.bipush 6, 2) := by decide +kernel
theorem dX8_word_3 : decode cX8_word 3 = .ok (.invokestatic 104, 3) := by decide +kernel
theorem dX8_word_6 : decode cX8_word 6 = .ok (.ifCond .eq 12, 3) := by decide +kernel
theorem dX8_word_9 : decode cX8_word 9 = .ok (.iload_n 2, 1) := by decide +kernel
theorem dX8_word_10 : decode cX8_word 10 = .ok (.bipush 8, 2) := by decide +kernel
theorem dX8_word_12 : decode cX8_word 12 = .ok (.invokestatic 104, 3) := by decide +kernel
theorem dX8_word_15 : decode cX8_word 15 = .ok (.ifCond .ne 5, 3) := by decide +kernel
theorem dX8_word_18 : decode cX8_word 18 = .ok (.iconst (-1), 1) := by decide +kernel
theorem dX8_word_19 : decode cX8_word 19 = .ok (.ireturn, 1) := by decide +kernel
theorem dX8_word_20 : decode cX8_word 20 = .ok (.iload_n 2, 1) := by decide +kernel
theorem dX8_word_21 : decode cX8_word 21 = .ok (.aload_n 0, 1) := by decide +kernel
theorem dX8_word_22 : decode cX8_word 22 = .ok (.getfield 29, 3) := by decide +kernel
theorem dX8_word_25 : decode cX8_word 25 = .ok (.getfield 111, 3) := by decide +kernel
theorem dX8_word_28 : decode cX8_word 28 = .ok (.iload_n 1, 1) := by decide +kernel
theorem dX8_word_29 : decode cX8_word 29 = .ok (.iaload, 1) := by decide +kernel
theorem dX8_word_30 : decode cX8_word 30 = .ok (.if_icmp .ge 17, 3) := by decide +kernel
theorem dX8_word_33 : decode cX8_word 33 = .ok (.aload_n 0, 1) := by decide +kernel
theorem dX8_word_34 : decode cX8_word 34 = .ok (.getfield 29, 3) := by decide +kernel
theorem dX8_word_37 : decode cX8_word 37 = .ok (.getfield 114, 3) := by decide +kernel
theorem dX8_word_40 : decode cX8_word 40 = .ok (.iload_n 1, 1) := by decide +kernel
theorem dX8_word_41 : decode cX8_word 41 = .ok (.aaload, 1) := by decide +kernel
theorem dX8_word_42 : decode cX8_word 42 = .ok (.iload_n 2, 1) := by decide +kernel
theorem dX8_word_43 : decode cX8_word 43 = .ok (.iaload, 1) := by decide +kernel
theorem dX8_word_44 : decode cX8_word 44 = .ok (.goto 5, 3) := by decide +kernel
theorem dX8_word_47 : decode cX8_word 47 = .ok (.bipush (-4), 2) := by decide +kernel
theorem dX8_word_49 : decode cX8_word 49 = .ok (.ireturn, 1) := by decide +kernel
theorem dX8_said_0 : decode cX8_said 0 = .ok (.iload_n 1, 1) := by decide +kernel
theorem dX8_said_1 : decode cX8_said 1 = .ok (.bipush 6, 2) := by decide +kernel
theorem dX8_said_3 : decode cX8_said 3 = .ok (.invokestatic 104, 3) := by decide +kernel
theorem dX8_said_6 : decode cX8_said 6 = .ok (.ifCond .eq 16, 3) := by decide +kernel
theorem dX8_said_9 : decode cX8_said 9 = .ok (.iload_n 2, 1) := by decide +kernel
theorem dX8_said_10 : decode cX8_said 10 = .ok (.iconst 5, 1) := by decide +kernel
theorem dX8_said_11 : decode cX8_said 11 = .ok (.invokestatic 104, 3) := by decide +kernel
theorem dX8_said_14 : decode cX8_said 14 = .ok (.ifCond .eq 8, 3) := by decide +kernel
theorem dX8_said_17 : decode cX8_said 17 = .ok (.iload_n 3, 1) := by decide +kernel
theorem dX8_said_18 : decode cX8_said 18 = .ok (.iconst (-1), 1) := by decide +kernel
theorem dX8_said_19 : decode cX8_said 19 = .ok (.if_icmp .ge 5, 3) := by decide +kernel
theorem dX8_said_22 : decode cX8_said 22 = .ok (.iconst (-1), 1) := by decide +kernel
theorem dX8_said_23 : decode cX8_said 23 = .ok (.ireturn, 1) := by decide +kernel
theorem dX8_said_24 : decode cX8_said 24 = .ok (.aload_n 0, 1) := by decide +kernel
theorem dX8_said_25 : decode cX8_said 25 = .ok (.getfield 29, 3) := by decide +kernel
theorem dX8_said_28 : decode cX8_said 28 = .ok (.getfield 111, 3) := by decide +kernel
theorem dX8_said_31 : decode cX8_said 31 = .ok (.iload_n 1, 1) := by decide +kernel
theorem dX8_said_32 : decode cX8_said 32 = .ok (.iaload, 1) := by decide +kernel
theorem dX8_said_33 : decode cX8_said 33 = .ok (.ifCond .ne 6, 3) := by decide +kernel
theorem dX8_said_36 : decode cX8_said 36 = .ok (.bipush (-2), 2) := by decide +kernel
theorem dX8_said_38 : decode cX8_said 38 = .ok (.ireturn, 1) := by decide +kernel
theorem dX8_said_39 : decode cX8_said 39 = .ok (.aload_n 0, 1) := by decide +kernel
theorem dX8_said_40 : decode cX8_said 40 = .ok (.getfield 42, 3) := by decide +kernel
theorem dX8_said_43 : decode cX8_said 43 = .ok (.iload_n 2, 1) := by decide +kernel
theorem dX8_said_44 : decode cX8_said 44 = .ok (.aload_n 0, 1) := by decide +kernel
theorem dX8_said_45 : decode cX8_said 45 = .ok (.getfield 29, 3) := by decide +kernel
theorem dX8_said_48 : decode cX8_said 48 = .ok (.getfield 111, 3) := by decide +kernel
theorem dX8_said_51 : decode cX8_said 51 = .ok (.iload_n 1, 1) := by decide +kernel
theorem dX8_said_52 : decode cX8_said 52 = .ok (.iaload, 1) := by decide +kernel
theorem dX8_said_53 : decode cX8_said 53 = .ok (.invokevirtual 117, 3) := by decide +kernel
theorem dX8_said_56 : decode cX8_said 56 = .ok (.iload_n 3, 1) := by decide +kernel
theorem dX8_said_57 : decode cX8_said 57 = .ok (.iconst (-1), 1) := by decide +kernel
theorem dX8_said_58 : decode cX8_said 58 = .ok (.if_icmp .ne 11, 3) := by decide +kernel
theorem dX8_said_61 : decode cX8_said 61 = .ok (.aload_n 0, 1) := by decide +kernel
theorem dX8_said_62 : decode cX8_said 62 = .ok (.getfield 42, 3) := by decide +kernel
theorem dX8_said_65 : decode cX8_said 65 = .ok (.getfield 121, 3) := by decide +kernel
theorem dX8_said_68 : decode cX8_said 68 = .ok (.ireturn, 1) := by decide +kernel
theorem dX8_said_69 : decode cX8_said 69 = .ok (.iload_n 3, 1) := by decide +kernel
theorem dX8_said_70 : decode cX8_said 70 = .ok (.aload_n 0, 1) := by decide +kernel
theorem dX8_said_71 : decode cX8_said 71 = .ok (.getfield 42, 3) := by decide +kernel
theorem dX8_said_74 : decode cX8_said 74 = .ok (.getfield 121, 3) := by decide +kernel
theorem dX8_said_77 : decode cX8_said 77 = .ok (.if_icmp .ge 27, 3) := by decide +kernel
theorem dX8_said_80 : decode cX8_said 80 = .ok (.aload_n 0, 1) := by decide +kernel
theorem dX8_said_81 : decode cX8_said 81 = .ok (.getfield 42, 3) := by decide +kernel
theorem dX8_said_84 : decode cX8_said 84 = .ok (.aload_n 0, 1) := by decide +kernel
theorem dX8_said_85 : decode cX8_said 85 = .ok (.getfield 19, 3) := by decide +kernel
theorem dX8_said_88 : decode cX8_said 88 = .ok (.aload_n 0, 1) := by decide +kernel
theorem dX8_said_89 : decode cX8_said 89 = .ok (.getfield 29, 3) := by decide +kernel
theorem dX8_said_92 : decode cX8_said 92 = .ok (.getfield 114, 3) := by decide +kernel
theorem dX8_said_95 : decode cX8_said 95 = .ok (.iload_n 1, 1) := by decide +kernel
theorem dX8_said_96 : decode cX8_said 96 = .ok (.aaload, 1) := by decide +kernel
theorem dX8_said_97 : decode cX8_said 97 = .ok (.iload_n 3, 1) := by decide +kernel
theorem dX8_said_98 : decode cX8_said 98 = .ok (.invokevirtual 122, 3) := by decide +kernel
theorem dX8_said_101 : decode cX8_said 101 = .ok (.goto 5, 3) := by decide +kernel
theorem dX8_said_104 : decode cX8_said 104 = .ok (.bipush (-4), 2) := by decide +kernel
theorem dX8_said_106 : decode cX8_said 106 = .ok (.ireturn, 1) := by decide +kernel
theorem dX8_say_0 : decode cX8_say 0 = .ok (.iload_n 1, 1) := by decide +kernel
theorem dX8_say_1 : decode cX8_say 1 = .ok (.bipush 6, 2) := by decide +kernel
theorem dX8_say_3 : decode cX8_say 3 = .ok (.invokestatic 104, 3) := by decide +kernel
theorem dX8_say_6 : decode cX8_say 6 = .ok (.ifCond .eq 11, 3) := by decide +kernel
theorem dX8_say_9 : decode cX8_say 9 = .ok (.iload_n 2, 1) := by decide +kernel
theorem dX8_say_10 : decode cX8_say 10 = .ok (.iconst 5, 1) := by decide +kernel
theorem dX8_say_11 : decode cX8_say 11 = .ok (.invokestatic 104, 3) := by decide +kernel
theorem dX8_say_14 : decode cX8_say 14 = .ok (.ifCond .ne 5, 3) := by decide +kernel
theorem dX8_say_17 : decode cX8_say 17 = .ok (.iconst (-1), 1) := by decide +kernel
theorem dX8_say_18 : decode cX8_say 18 = .ok (.ireturn, 1) := by decide +kernel
theorem dX8_say_19 : decode cX8_say 19 = .ok (.aload_n 0, 1) := by decide +kernel
theorem dX8_say_20 : decode cX8_say 20 = .ok (.getfield 29, 3) := by decide +kernel
theorem dX8_say_23 : decode cX8_say 23 = .ok (.getfield 111, 3) := by decide +kernel
theorem dX8_say_26 : decode cX8_say 26 = .ok (.iload_n 1, 1) := by decide +kernel
theorem dX8_say_27 : decode cX8_say 27 = .ok (.iaload, 1) := by decide +kernel
theorem dX8_say_28 : decode cX8_say 28 = .ok (.ifCond .ne 6, 3) := by decide +kernel
theorem dX8_say_31 : decode cX8_say 31 = .ok (.bipush (-2), 2) := by decide +kernel
theorem dX8_say_33 : decode cX8_say 33 = .ok (.ireturn, 1) := by decide +kernel
theorem dX8_say_34 : decode cX8_say 34 = .ok (.aload_n 0, 1) := by decide +kernel
theorem dX8_say_35 : decode cX8_say 35 = .ok (.getfield 42, 3) := by decide +kernel
theorem dX8_say_38 : decode cX8_say 38 = .ok (.iload_n 2, 1) := by decide +kernel
theorem dX8_say_39 : decode cX8_say 39 = .ok (.aload_n 0, 1) := by decide +kernel
theorem dX8_say_40 : decode cX8_say 40 = .ok (.getfield 29, 3) := by decide +kernel
theorem dX8_say_43 : decode cX8_say 43 = .ok (.getfield 111, 3) := by decide +kernel
theorem dX8_say_46 : decode cX8_say 46 = .ok (.iload_n 1, 1) := by decide +kernel
theorem dX8_say_47 : decode cX8_say 47 = .ok (.iaload, 1) := by decide +kernel
theorem dX8_say_48 : decode cX8_say 48 = .ok (.invokevirtual 117, 3) := by decide +kernel
theorem dX8_say_51 : decode cX8_say 51 = .ok (.iconst 0, 1) := by decide +kernel
theorem dX8_say_52 : decode cX8_say 52 = .ok (.istore_n 3, 1) := by decide +kernel
theorem dX8_say_53 : decode cX8_say 53 = .ok (.iload_n 3, 1) := by decide +kernel
theorem dX8_say_54 : decode cX8_say 54 = .ok (.aload_n 0, 1) := by decide +kernel
theorem dX8_say_55 : decode cX8_say 55 = .ok (.getfield 42, 3) := by decide +kernel
theorem dX8_say_58 : decode cX8_say 58 = .ok (.getfield 121, 3) := by decide +kernel
theorem dX8_say_61 : decode cX8_say 61 = .ok (.if_icmp .ge 39, 3) := by decide +kernel
theorem dX8_say_64 : decode cX8_say 64 = .ok (.aload_n 0, 1) := by decide +kernel
theorem dX8_say_65 : decode cX8_say 65 = .ok (.getfield 29, 3) := by decide +kernel
theorem dX8_say_68 : decode cX8_say 68 = .ok (.getfield 126, 3) := by decide +kernel
theorem dX8_say_71 : decode cX8_say 71 = .ok (.iload_n 3, 1) := by decide +kernel
theorem dX8_say_72 : decode cX8_say 72 = .ok (.aload_n 0, 1) := by decide +kernel
theorem dX8_say_73 : decode cX8_say 73 = .ok (.getfield 42, 3) := by decide +kernel
theorem dX8_say_76 : decode cX8_say 76 = .ok (.aload_n 0, 1) := by decide +kernel
theorem dX8_say_77 : decode cX8_say 77 = .ok (.getfield 19, 3) := by decide +kernel
theorem dX8_say_80 : decode cX8_say 80 = .ok (.aload_n 0, 1) := by decide +kernel
theorem dX8_say_81 : decode cX8_say 81 = .ok (.getfield 29, 3) := by decide +kernel
theorem dX8_say_84 : decode cX8_say 84 = .ok (.getfield 114, 3) := by decide +kernel
theorem dX8_say_87 : decode cX8_say 87 = .ok (.iload_n 1, 1) := by decide +kernel
theorem dX8_say_88 : decode cX8_say 88 = .ok (.aaload, 1) := by decide +kernel
theorem dX8_say_89 : decode cX8_say 89 = .ok (.iload_n 3, 1) := by decide +kernel
theorem dX8_say_90 : decode cX8_say 90 = .ok (.invokevirtual 122, 3) := by decide +kernel
theorem dX8_say_93 : decode cX8_say 93 = .ok (.iastore, 1) := by decide +kernel
theorem dX8_say_94 : decode cX8_say 94 = .ok (.iinc 3 1, 3) := by decide +kernel
theorem dX8_say_97 : decode cX8_say 97 = .ok (.goto (-44), 3) := by decide +kernel
theorem dX8_say_100 : decode cX8_say 100 = .ok (.aload_n 0, 1) := by decide +kernel
theorem dX8_say_101 : decode cX8_say 101 = .ok (.getfield 29, 3) := by decide +kernel
theorem dX8_say_104 : decode cX8_say 104 = .ok (.aload_n 0, 1) := by decide +kernel
theorem dX8_say_105 : decode cX8_say 105 = .ok (.getfield 42, 3) := by decide +kernel
theorem dX8_say_108 : decode cX8_say 108 = .ok (.getfield 121, 3) := by decide +kernel
theorem dX8_say_111 : decode cX8_say 111 = .ok (.putfield 129, 3) := by decide +kernel
theorem dX8_say_114 : decode cX8_say 114 = .ok (.aload_n 0, 1) := by decide +kernel
theorem dX8_say_115 : decode cX8_say 115 = .ok (.getfield 29, 3) := by decide +kernel
theorem dX8_say_118 : decode cX8_say 118 = .ok (.iload_n 2, 1) := by decide +kernel
theorem dX8_say_119 : decode cX8_say 119 = .ok (.putfield 132, 3) := by decide +kernel
theorem dX8_say_122 : decode cX8_say 122 = .ok (.aload_n 0, 1) := by decide +kernel
theorem dX8_say_123 : decode cX8_say 123 = .ok (.getfield 29, 3) := by decide +kernel
theorem dX8_say_126 : decode cX8_say 126 = .ok (.aload_n 0, 1) := by decide +kernel
theorem dX8_say_127 : decode cX8_say 127 = .ok (.getfield 29, 3) := by decide +kernel
theorem dX8_say_130 : decode cX8_say 130 = .ok (.getfield 111, 3) := by decide +kernel
theorem dX8_say_133 : decode cX8_say 133 = .ok (.iload_n 1, 1) := by decide +kernel
theorem dX8_say_134 : decode cX8_say 134 = .ok (.iaload, 1) := by decide +kernel
theorem dX8_say_135 : decode cX8_say 135 = .ok (.putfield 135, 3) := by decide +kernel
theorem dX8_say_138 : decode cX8_say 138 = .ok (.aload_n 0, 1) := by decide +kernel
theorem dX8_say_139 : decode cX8_say 139 = .ok (.getfield 29, 3) := by decide +kernel
theorem dX8_say_142 : decode cX8_say 142 = .ok (.getfield 129, 3) := by decide +kernel
theorem dX8_say_145 : decode cX8_say 145 = .ok (.ireturn, 1) := by decide +kernel
theorem dX8_alter_0 : decode cX8_alter 0 = .ok (.iload_n 1, 1) := by decide +kernel
theorem dX8_alter_1 : decode cX8_alter 1 = .ok (.aload_n 0, 1) := by decide +kernel
theorem dX8_alter_2 : decode cX8_alter 2 = .ok (.getfield 29, 3) := by decide +kernel
theorem dX8_alter_5 : decode cX8_alter 5 = .ok (.getfield 129, 3) := by decide +kernel
theorem dX8_alter_8 : decode cX8_alter 8 = .ok (.invokestatic 104, 3) := by decide +kernel
theorem dX8_alter_11 : decode cX8_alter 11 = .ok (.ifCond .eq 13, 3) := by decide +kernel
theorem dX8_alter_14 : decode cX8_alter 14 = .ok (.iload_n 2, 1) := by decide +kernel
theorem dX8_alter_15 : decode cX8_alter 15 = .ok (.sipush 1024, 3) := by decide +kernel
theorem dX8_alter_18 : decode cX8_alter 18 = .ok (.invokestatic 104, 3) := by decide +kernel
theorem dX8_alter_21 : decode cX8_alter 21 = .ok (.ifCond .ne 5, 3) := by decide +kernel
theorem dX8_alter_24 : decode cX8_alter 24 = .ok (.iconst (-1), 1) := by decide +kernel
theorem dX8_alter_25 : decode cX8_alter 25 = .ok (.ireturn, 1) := by decide +kernel
theorem dX8_alter_26 : decode cX8_alter 26 = .ok (.aload_n 0, 1) := by decide +kernel
theorem dX8_alter_27 : decode cX8_alter 27 = .ok (.getfield 29, 3) := by decide +kernel
theorem dX8_alter_30 : decode cX8_alter 30 = .ok (.getfield 126, 3) := by decide +kernel
theorem dX8_alter_33 : decode cX8_alter 33 = .ok (.iload_n 1, 1) := by decide +kernel
theorem dX8_alter_34 : decode cX8_alter 34 = .ok (.iaload, 1) := by decide +kernel
theorem dX8_alter_35 : decode cX8_alter 35 = .ok (.istore_n 3, 1) := by decide +kernel
theorem dX8_alter_36 : decode cX8_alter 36 = .ok (.aload_n 0, 1) := by decide +kernel
theorem dX8_alter_37 : decode cX8_alter 37 = .ok (.getfield 29, 3) := by decide +kernel
theorem dX8_alter_40 : decode cX8_alter 40 = .ok (.getfield 126, 3) := by decide +kernel
theorem dX8_alter_43 : decode cX8_alter 43 = .ok (.iload_n 1, 1) := by decide +kernel
theorem dX8_alter_44 : decode cX8_alter 44 = .ok (.iload_n 2, 1) := by decide +kernel
theorem dX8_alter_45 : decode cX8_alter 45 = .ok (.iastore, 1) := by decide +kernel
theorem dX8_alter_46 : decode cX8_alter 46 = .ok (.iload_n 3, 1) := by decide +kernel
theorem dX8_alter_47 : decode cX8_alter 47 = .ok (.ireturn, 1) := by decide +kernel
theorem dX8_soundSo_0 : decode cX8_soundSo 0 = .ok (.aload_n 0, 1) := by decide +kernel
theorem dX8_soundSo_1 : decode cX8_soundSo 1 = .ok (.getfield 29, 3) := by decide +kernel
theorem dX8_soundSo_4 : decode cX8_soundSo 4 = .ok (.getfield 129, 3) := by decide +kernel
theorem dX8_soundSo_7 : decode cX8_soundSo 7 = .ok (.ifCond .ne 7, 3) := by decide +kernel
theorem dX8_soundSo_10 : decode cX8_soundSo 10 = .ok (.ldc2_w 138, 3) := by decide +kernel
theorem dX8_soundSo_13 : decode cX8_soundSo 13 = .ok (.lreturn, 1) := by decide +kernel
theorem dX8_soundSo_14 : decode cX8_soundSo 14 = .ok (.aload_n 0, 1) := by decide +kernel
theorem dX8_soundSo_15 : decode cX8_soundSo 15 = .ok (.invokevirtual 140, 3) := by decide +kernel
theorem dX8_soundSo_18 : decode cX8_soundSo 18 = .ok (.aload_n 0, 1) := by decide +kernel
theorem dX8_soundSo_19 : decode cX8_soundSo 19 = .ok (.getfield 51, 3) := by decide +kernel
theorem dX8_soundSo_22 : decode cX8_soundSo 22 = .ok (.getfield 143, 3) := by decide +kernel
theorem dX8_soundSo_25 : decode cX8_soundSo 25 = .ok (.ifCond .ne 13, 3) := by decide +kernel
theorem dX8_soundSo_28 : decode cX8_soundSo 28 = .ok (.aload_n 0, 1) := by decide +kernel
theorem dX8_soundSo_29 : decode cX8_soundSo 29 = .ok (.getfield 51, 3) := by decide +kernel
theorem dX8_soundSo_32 : decode cX8_soundSo 32 = .ok (.getfield 146, 3) := by decide +kernel
theorem dX8_soundSo_35 : decode cX8_soundSo 35 = .ok (.goto 4, 3) := by decide +kernel
theorem dX8_soundSo_38 : decode cX8_soundSo 38 = .ok (.lconst 0, 1) := by decide +kernel
theorem dX8_soundSo_39 : decode cX8_soundSo 39 = .ok (.lreturn, 1) := by decide +kernel
theorem dX8_nearest_0 : decode cX8_nearest 0 = .ok (.iload_n 1, 1) := by decide +kernel
theorem dX8_nearest_1 : decode cX8_nearest 1 = .ok (.bipush 6, 2) := by decide +kernel
theorem dX8_nearest_3 : decode cX8_nearest 3 = .ok (.invokestatic 104, 3) := by decide +kernel
theorem dX8_nearest_6 : decode cX8_nearest 6 = .ok (.ifCond .ne 5, 3) := by decide +kernel
theorem dX8_nearest_9 : decode cX8_nearest 9 = .ok (.iconst (-1), 1) := by decide +kernel
theorem dX8_nearest_10 : decode cX8_nearest 10 = .ok (.ireturn, 1) := by decide +kernel
theorem dX8_nearest_11 : decode cX8_nearest 11 = .ok (.aload_n 0, 1) := by decide +kernel
theorem dX8_nearest_12 : decode cX8_nearest 12 = .ok (.getfield 29, 3) := by decide +kernel
theorem dX8_nearest_15 : decode cX8_nearest 15 = .ok (.getfield 129, 3) := by decide +kernel
theorem dX8_nearest_18 : decode cX8_nearest 18 = .ok (.ifCond .ne 6, 3) := by decide +kernel
theorem dX8_nearest_21 : decode cX8_nearest 21 = .ok (.bipush (-2), 2) := by decide +kernel
theorem dX8_nearest_23 : decode cX8_nearest 23 = .ok (.ireturn, 1) := by decide +kernel
theorem dX8_nearest_24 : decode cX8_nearest 24 = .ok (.aload_n 0, 1) := by decide +kernel
theorem dX8_nearest_25 : decode cX8_nearest 25 = .ok (.invokevirtual 140, 3) := by decide +kernel
theorem dX8_nearest_28 : decode cX8_nearest 28 = .ok (.aload_n 0, 1) := by decide +kernel
theorem dX8_nearest_29 : decode cX8_nearest 29 = .ok (.getfield 51, 3) := by decide +kernel
theorem dX8_nearest_32 : decode cX8_nearest 32 = .ok (.aload_n 0, 1) := by decide +kernel
theorem dX8_nearest_33 : decode cX8_nearest 33 = .ok (.getfield 29, 3) := by decide +kernel
theorem dX8_nearest_36 : decode cX8_nearest 36 = .ok (.getfield 114, 3) := by decide +kernel
theorem dX8_nearest_39 : decode cX8_nearest 39 = .ok (.iload_n 1, 1) := by decide +kernel
theorem dX8_nearest_40 : decode cX8_nearest 40 = .ok (.aaload, 1) := by decide +kernel
theorem dX8_nearest_41 : decode cX8_nearest 41 = .ok (.invokevirtual 150, 3) := by decide +kernel
theorem dX8_nearest_44 : decode cX8_nearest 44 = .ok (.aload_n 0, 1) := by decide +kernel
theorem dX8_nearest_45 : decode cX8_nearest 45 = .ok (.getfield 29, 3) := by decide +kernel
theorem dX8_nearest_48 : decode cX8_nearest 48 = .ok (.getfield 111, 3) := by decide +kernel
theorem dX8_nearest_51 : decode cX8_nearest 51 = .ok (.iload_n 1, 1) := by decide +kernel
theorem dX8_nearest_52 : decode cX8_nearest 52 = .ok (.aload_n 0, 1) := by decide +kernel
theorem dX8_nearest_53 : decode cX8_nearest 53 = .ok (.getfield 29, 3) := by decide +kernel
theorem dX8_nearest_56 : decode cX8_nearest 56 = .ok (.getfield 135, 3) := by decide +kernel
theorem dX8_nearest_59 : decode cX8_nearest 59 = .ok (.iastore, 1) := by decide +kernel
theorem dX8_nearest_60 : decode cX8_nearest 60 = .ok (.aload_n 0, 1) := by decide +kernel
theorem dX8_nearest_61 : decode cX8_nearest 61 = .ok (.getfield 51, 3) := by decide +kernel
theorem dX8_nearest_64 : decode cX8_nearest 64 = .ok (.getfield 143, 3) := by decide +kernel
theorem dX8_nearest_67 : decode cX8_nearest 67 = .ok (.ireturn, 1) := by decide +kernel
theorem dX8_rivals_0 : decode cX8_rivals 0 = .ok (.aload_n 0, 1) := by decide +kernel
theorem dX8_rivals_1 : decode cX8_rivals 1 = .ok (.getfield 29, 3) := by decide +kernel
theorem dX8_rivals_4 : decode cX8_rivals 4 = .ok (.getfield 129, 3) := by decide +kernel
theorem dX8_rivals_7 : decode cX8_rivals 7 = .ok (.ifCond .ne 7, 3) := by decide +kernel
theorem dX8_rivals_10 : decode cX8_rivals 10 = .ok (.ldc2_w 138, 3) := by decide +kernel
theorem dX8_rivals_13 : decode cX8_rivals 13 = .ok (.lreturn, 1) := by decide +kernel
theorem dX8_rivals_14 : decode cX8_rivals 14 = .ok (.aload_n 0, 1) := by decide +kernel
theorem dX8_rivals_15 : decode cX8_rivals 15 = .ok (.invokevirtual 140, 3) := by decide +kernel
theorem dX8_rivals_18 : decode cX8_rivals 18 = .ok (.aload_n 0, 1) := by decide +kernel
theorem dX8_rivals_19 : decode cX8_rivals 19 = .ok (.getfield 51, 3) := by decide +kernel
theorem dX8_rivals_22 : decode cX8_rivals 22 = .ok (.getfield 146, 3) := by decide +kernel
theorem dX8_rivals_25 : decode cX8_rivals 25 = .ok (.lreturn, 1) := by decide +kernel
theorem dX8_far_0 : decode cX8_far 0 = .ok (.iload_n 1, 1) := by decide +kernel
theorem dX8_far_1 : decode cX8_far 1 = .ok (.bipush 6, 2) := by decide +kernel
theorem dX8_far_3 : decode cX8_far 3 = .ok (.invokestatic 104, 3) := by decide +kernel
theorem dX8_far_6 : decode cX8_far 6 = .ok (.ifCond .eq 20, 3) := by decide +kernel
theorem dX8_far_9 : decode cX8_far 9 = .ok (.iload_n 2, 1) := by decide +kernel
theorem dX8_far_10 : decode cX8_far 10 = .ok (.bipush 32, 2) := by decide +kernel
theorem dX8_far_12 : decode cX8_far 12 = .ok (.invokestatic 104, 3) := by decide +kernel
theorem dX8_far_15 : decode cX8_far 15 = .ok (.ifCond .eq 11, 3) := by decide +kernel
theorem dX8_far_18 : decode cX8_far 18 = .ok (.iload_n 3, 1) := by decide +kernel
theorem dX8_far_19 : decode cX8_far 19 = .ok (.iconst 3, 1) := by decide +kernel
theorem dX8_far_20 : decode cX8_far 20 = .ok (.invokestatic 104, 3) := by decide +kernel
theorem dX8_far_23 : decode cX8_far 23 = .ok (.ifCond .ne 5, 3) := by decide +kernel
theorem dX8_far_26 : decode cX8_far 26 = .ok (.iconst (-1), 1) := by decide +kernel
theorem dX8_far_27 : decode cX8_far 27 = .ok (.ireturn, 1) := by decide +kernel
theorem dX8_far_28 : decode cX8_far 28 = .ok (.aload_n 0, 1) := by decide +kernel
theorem dX8_far_29 : decode cX8_far 29 = .ok (.iload_n 1, 1) := by decide +kernel
theorem dX8_far_30 : decode cX8_far 30 = .ok (.invokevirtual 154, 3) := by decide +kernel
theorem dX8_far_33 : decode cX8_far 33 = .ok (.istore 4, 2) := by decide +kernel
theorem dX8_far_35 : decode cX8_far 35 = .ok (.iload 4, 2) := by decide +kernel
theorem dX8_far_37 : decode cX8_far 37 = .ok (.ifCond .eq 6, 3) := by decide +kernel
theorem dX8_far_40 : decode cX8_far 40 = .ok (.iload 4, 2) := by decide +kernel
theorem dX8_far_42 : decode cX8_far 42 = .ok (.ireturn, 1) := by decide +kernel
theorem dX8_far_43 : decode cX8_far 43 = .ok (.aload_n 0, 1) := by decide +kernel
theorem dX8_far_44 : decode cX8_far 44 = .ok (.iload_n 1, 1) := by decide +kernel
theorem dX8_far_45 : decode cX8_far 45 = .ok (.iload_n 2, 1) := by decide +kernel
theorem dX8_far_46 : decode cX8_far 46 = .ok (.invokevirtual 158, 3) := by decide +kernel
theorem dX8_far_49 : decode cX8_far 49 = .ok (.istore 5, 2) := by decide +kernel
theorem dX8_far_51 : decode cX8_far 51 = .ok (.iconst 0, 1) := by decide +kernel
theorem dX8_far_52 : decode cX8_far 52 = .ok (.iload 5, 2) := by decide +kernel
theorem dX8_far_54 : decode cX8_far 54 = .ok (.iconst 1, 1) := by decide +kernel
theorem dX8_far_55 : decode cX8_far 55 = .ok (.isub, 1) := by decide +kernel
theorem dX8_far_56 : decode cX8_far 56 = .ok (.invokestatic 162, 3) := by decide +kernel
theorem dX8_far_59 : decode cX8_far 59 = .ok (.istore 6, 2) := by decide +kernel
theorem dX8_far_61 : decode cX8_far 61 = .ok (.iload_n 3, 1) := by decide +kernel
theorem dX8_far_62 : decode cX8_far 62 = .ok (.ifCond .ne 6, 3) := by decide +kernel
theorem dX8_far_65 : decode cX8_far 65 = .ok (.iload 5, 2) := by decide +kernel
theorem dX8_far_67 : decode cX8_far 67 = .ok (.ireturn, 1) := by decide +kernel
theorem dX8_far_68 : decode cX8_far 68 = .ok (.iload_n 3, 1) := by decide +kernel
theorem dX8_far_69 : decode cX8_far 69 = .ok (.iconst 1, 1) := by decide +kernel
theorem dX8_far_70 : decode cX8_far 70 = .ok (.if_icmp .ne 8, 3) := by decide +kernel
theorem dX8_far_73 : decode cX8_far 73 = .ok (.iload 6, 2) := by decide +kernel
theorem dX8_far_75 : decode cX8_far 75 = .ok (.goto 7, 3) := by decide +kernel
theorem dX8_far_78 : decode cX8_far 78 = .ok (.iload 6, 2) := by decide +kernel
theorem dX8_far_80 : decode cX8_far 80 = .ok (.iconst 2, 1) := by decide +kernel
theorem dX8_far_81 : decode cX8_far 81 = .ok (.idiv, 1) := by decide +kernel
theorem dX8_far_82 : decode cX8_far 82 = .ok (.ireturn, 1) := by decide +kernel
theorem dX8_best_0 : decode cX8_best 0 = .ok (.iload_n 1, 1) := by decide +kernel
theorem dX8_best_1 : decode cX8_best 1 = .ok (.bipush 6, 2) := by decide +kernel
theorem dX8_best_3 : decode cX8_best 3 = .ok (.invokestatic 104, 3) := by decide +kernel
theorem dX8_best_6 : decode cX8_best 6 = .ok (.ifCond .eq 21, 3) := by decide +kernel
theorem dX8_best_9 : decode cX8_best 9 = .ok (.iload_n 2, 1) := by decide +kernel
theorem dX8_best_10 : decode cX8_best 10 = .ok (.sipush 496, 3) := by decide +kernel
theorem dX8_best_13 : decode cX8_best 13 = .ok (.invokestatic 104, 3) := by decide +kernel
theorem dX8_best_16 : decode cX8_best 16 = .ok (.ifCond .eq 11, 3) := by decide +kernel
theorem dX8_best_19 : decode cX8_best 19 = .ok (.iload_n 3, 1) := by decide +kernel
theorem dX8_best_20 : decode cX8_best 20 = .ok (.iconst 2, 1) := by decide +kernel
theorem dX8_best_21 : decode cX8_best 21 = .ok (.invokestatic 104, 3) := by decide +kernel
theorem dX8_best_24 : decode cX8_best 24 = .ok (.ifCond .ne 5, 3) := by decide +kernel
theorem dX8_best_27 : decode cX8_best 27 = .ok (.iconst (-1), 1) := by decide +kernel
theorem dX8_best_28 : decode cX8_best 28 = .ok (.ireturn, 1) := by decide +kernel
theorem dX8_best_29 : decode cX8_best 29 = .ok (.aload_n 0, 1) := by decide +kernel
theorem dX8_best_30 : decode cX8_best 30 = .ok (.iload_n 1, 1) := by decide +kernel
theorem dX8_best_31 : decode cX8_best 31 = .ok (.invokevirtual 154, 3) := by decide +kernel
theorem dX8_best_34 : decode cX8_best 34 = .ok (.istore 4, 2) := by decide +kernel
theorem dX8_best_36 : decode cX8_best 36 = .ok (.iload 4, 2) := by decide +kernel
theorem dX8_best_38 : decode cX8_best 38 = .ok (.ifCond .eq 6, 3) := by decide +kernel
theorem dX8_best_41 : decode cX8_best 41 = .ok (.iload 4, 2) := by decide +kernel
theorem dX8_best_43 : decode cX8_best 43 = .ok (.ireturn, 1) := by decide +kernel
theorem dX8_best_44 : decode cX8_best 44 = .ok (.aload_n 0, 1) := by decide +kernel
theorem dX8_best_45 : decode cX8_best 45 = .ok (.iload_n 1, 1) := by decide +kernel
theorem dX8_best_46 : decode cX8_best 46 = .ok (.iload_n 2, 1) := by decide +kernel
theorem dX8_best_47 : decode cX8_best 47 = .ok (.invokevirtual 167, 3) := by decide +kernel
theorem dX8_best_50 : decode cX8_best 50 = .ok (.istore 5, 2) := by decide +kernel
theorem dX8_best_52 : decode cX8_best 52 = .ok (.iload_n 3, 1) := by decide +kernel
theorem dX8_best_53 : decode cX8_best 53 = .ok (.ifCond .ne 8, 3) := by decide +kernel
theorem dX8_best_56 : decode cX8_best 56 = .ok (.iload 5, 2) := by decide +kernel
theorem dX8_best_58 : decode cX8_best 58 = .ok (.goto 10, 3) := by decide +kernel
theorem dX8_best_61 : decode cX8_best 61 = .ok (.aload_n 0, 1) := by decide +kernel
theorem dX8_best_62 : decode cX8_best 62 = .ok (.getfield 73, 3) := by decide +kernel
theorem dX8_best_65 : decode cX8_best 65 = .ok (.iload 5, 2) := by decide +kernel
theorem dX8_best_67 : decode cX8_best 67 = .ok (.iaload, 1) := by decide +kernel
theorem dX8_best_68 : decode cX8_best 68 = .ok (.ireturn, 1) := by decide +kernel
theorem dX8_learnt_0 : decode cX8_learnt 0 = .ok (.iload_n 1, 1) := by decide +kernel
theorem dX8_learnt_1 : decode cX8_learnt 1 = .ok (.bipush 6, 2) := by decide +kernel
theorem dX8_learnt_3 : decode cX8_learnt 3 = .ok (.invokestatic 104, 3) := by decide +kernel
theorem dX8_learnt_6 : decode cX8_learnt 6 = .ok (.ifCond .eq 27, 3) := by decide +kernel
theorem dX8_learnt_9 : decode cX8_learnt 9 = .ok (.iload_n 3, 1) := by decide +kernel
theorem dX8_learnt_10 : decode cX8_learnt 10 = .ok (.aload_n 0, 1) := by decide +kernel
theorem dX8_learnt_11 : decode cX8_learnt 11 = .ok (.getfield 19, 3) := by decide +kernel
theorem dX8_learnt_14 : decode cX8_learnt 14 = .ok (.getfield 101, 3) := by decide +kernel
theorem dX8_learnt_17 : decode cX8_learnt 17 = .ok (.invokestatic 104, 3) := by decide +kernel
theorem dX8_learnt_20 : decode cX8_learnt 20 = .ok (.ifCond .eq 13, 3) := by decide +kernel
theorem dX8_learnt_23 : decode cX8_learnt 23 = .ok (.aload_n 0, 1) := by decide +kernel
theorem dX8_learnt_24 : decode cX8_learnt 24 = .ok (.iload_n 1, 1) := by decide +kernel
theorem dX8_learnt_25 : decode cX8_learnt 25 = .ok (.iload_n 2, 1) := by decide +kernel
theorem dX8_learnt_26 : decode cX8_learnt 26 = .ok (.iload_n 3, 1) := by decide +kernel
theorem dX8_learnt_27 : decode cX8_learnt 27 = .ok (.invokevirtual 170, 3) := by decide +kernel
theorem dX8_learnt_30 : decode cX8_learnt 30 = .ok (.ifCond .ne 5, 3) := by decide +kernel
theorem dX8_learnt_33 : decode cX8_learnt 33 = .ok (.iconst (-1), 1) := by decide +kernel
theorem dX8_learnt_34 : decode cX8_learnt 34 = .ok (.ireturn, 1) := by decide +kernel
theorem dX8_learnt_35 : decode cX8_learnt 35 = .ok (.aload_n 0, 1) := by decide +kernel
theorem dX8_learnt_36 : decode cX8_learnt 36 = .ok (.iload_n 1, 1) := by decide +kernel
theorem dX8_learnt_37 : decode cX8_learnt 37 = .ok (.iload_n 2, 1) := by decide +kernel
theorem dX8_learnt_38 : decode cX8_learnt 38 = .ok (.iload_n 3, 1) := by decide +kernel
theorem dX8_learnt_39 : decode cX8_learnt 39 = .ok (.invokevirtual 174, 3) := by decide +kernel
theorem dX8_learnt_42 : decode cX8_learnt 42 = .ok (.ireturn, 1) := by decide +kernel
theorem dX8_slip_0 : decode cX8_slip 0 = .ok (.iload_n 1, 1) := by decide +kernel
theorem dX8_slip_1 : decode cX8_slip 1 = .ok (.bipush 6, 2) := by decide +kernel
theorem dX8_slip_3 : decode cX8_slip 3 = .ok (.invokestatic 104, 3) := by decide +kernel
theorem dX8_slip_6 : decode cX8_slip 6 = .ok (.ifCond .eq 26, 3) := by decide +kernel
theorem dX8_slip_9 : decode cX8_slip 9 = .ok (.iload_n 2, 1) := by decide +kernel
theorem dX8_slip_10 : decode cX8_slip 10 = .ok (.bipush 8, 2) := by decide +kernel
theorem dX8_slip_12 : decode cX8_slip 12 = .ok (.invokestatic 104, 3) := by decide +kernel
theorem dX8_slip_15 : decode cX8_slip 15 = .ok (.ifCond .eq 17, 3) := by decide +kernel
theorem dX8_slip_18 : decode cX8_slip 18 = .ok (.iload_n 3, 1) := by decide +kernel
theorem dX8_slip_19 : decode cX8_slip 19 = .ok (.aload_n 0, 1) := by decide +kernel
theorem dX8_slip_20 : decode cX8_slip 20 = .ok (.getfield 19, 3) := by decide +kernel
theorem dX8_slip_23 : decode cX8_slip 23 = .ok (.getfield 101, 3) := by decide +kernel
theorem dX8_slip_26 : decode cX8_slip 26 = .ok (.invokestatic 104, 3) := by decide +kernel
theorem dX8_slip_29 : decode cX8_slip 29 = .ok (.ifCond .ne 5, 3) := by decide +kernel
theorem dX8_slip_32 : decode cX8_slip 32 = .ok (.iconst (-1), 1) := by decide +kernel
theorem dX8_slip_33 : decode cX8_slip 33 = .ok (.ireturn, 1) := by decide +kernel
theorem dX8_slip_34 : decode cX8_slip 34 = .ok (.aload_n 0, 1) := by decide +kernel
theorem dX8_slip_35 : decode cX8_slip 35 = .ok (.getfield 58, 3) := by decide +kernel
theorem dX8_slip_38 : decode cX8_slip 38 = .ok (.iload_n 1, 1) := by decide +kernel
theorem dX8_slip_39 : decode cX8_slip 39 = .ok (.iload_n 2, 1) := by decide +kernel
theorem dX8_slip_40 : decode cX8_slip 40 = .ok (.iload_n 3, 1) := by decide +kernel
theorem dX8_slip_41 : decode cX8_slip 41 = .ok (.invokevirtual 178, 3) := by decide +kernel
theorem dX8_slip_44 : decode cX8_slip 44 = .ok (.ireturn, 1) := by decide +kernel
theorem dX8_noSlips_0 : decode cX8_noSlips 0 = .ok (.aload_n 0, 1) := by decide +kernel
theorem dX8_noSlips_1 : decode cX8_noSlips 1 = .ok (.getfield 58, 3) := by decide +kernel
theorem dX8_noSlips_4 : decode cX8_noSlips 4 = .ok (.getfield 94, 3) := by decide +kernel
theorem dX8_noSlips_7 : decode cX8_noSlips 7 = .ok (.istore_n 1, 1) := by decide +kernel
theorem dX8_noSlips_8 : decode cX8_noSlips 8 = .ok (.aload_n 0, 1) := by decide +kernel
theorem dX8_noSlips_9 : decode cX8_noSlips 9 = .ok (.getfield 58, 3) := by decide +kernel
theorem dX8_noSlips_12 : decode cX8_noSlips 12 = .ok (.iconst 0, 1) := by decide +kernel
theorem dX8_noSlips_13 : decode cX8_noSlips 13 = .ok (.putfield 94, 3) := by decide +kernel
theorem dX8_noSlips_16 : decode cX8_noSlips 16 = .ok (.iload_n 1, 1) := by decide +kernel
theorem dX8_noSlips_17 : decode cX8_noSlips 17 = .ok (.ireturn, 1) := by decide +kernel
theorem dX8_slips_0 : decode cX8_slips 0 = .ok (.iload_n 1, 1) := by decide +kernel
theorem dX8_slips_1 : decode cX8_slips 1 = .ok (.tableswitch 51 0 3 #[31, 36, 41, 46], 31) := by decide +kernel
theorem dX8_slips_32 : decode cX8_slips 32 = .ok (.aload_n 0, 1) := by decide +kernel
theorem dX8_slips_33 : decode cX8_slips 33 = .ok (.invokevirtual 180, 3) := by decide +kernel
theorem dX8_slips_36 : decode cX8_slips 36 = .ok (.ireturn, 1) := by decide +kernel
theorem dX8_slips_37 : decode cX8_slips 37 = .ok (.aload_n 0, 1) := by decide +kernel
theorem dX8_slips_38 : decode cX8_slips 38 = .ok (.invokevirtual 184, 3) := by decide +kernel
theorem dX8_slips_41 : decode cX8_slips 41 = .ok (.ireturn, 1) := by decide +kernel
theorem dX8_slips_42 : decode cX8_slips 42 = .ok (.aload_n 0, 1) := by decide +kernel
theorem dX8_slips_43 : decode cX8_slips 43 = .ok (.invokevirtual 187, 3) := by decide +kernel
theorem dX8_slips_46 : decode cX8_slips 46 = .ok (.ireturn, 1) := by decide +kernel
theorem dX8_slips_47 : decode cX8_slips 47 = .ok (.aload_n 0, 1) := by decide +kernel
theorem dX8_slips_48 : decode cX8_slips 48 = .ok (.invokevirtual 190, 3) := by decide +kernel
theorem dX8_slips_51 : decode cX8_slips 51 = .ok (.ireturn, 1) := by decide +kernel
theorem dX8_slips_52 : decode cX8_slips 52 = .ok (.iconst (-1), 1) := by decide +kernel
theorem dX8_slips_53 : decode cX8_slips 53 = .ok (.ireturn, 1) := by decide +kernel
theorem dX8_list_0 : decode cX8_list 0 = .ok (.iload_n 1, 1) := by decide +kernel
theorem dX8_list_1 : decode cX8_list 1 = .ok (.bipush 6, 2) := by decide +kernel
theorem dX8_list_3 : decode cX8_list 3 = .ok (.invokestatic 104, 3) := by decide +kernel
theorem dX8_list_6 : decode cX8_list 6 = .ok (.ifCond .eq 12, 3) := by decide +kernel
theorem dX8_list_9 : decode cX8_list 9 = .ok (.iload_n 2, 1) := by decide +kernel
theorem dX8_list_10 : decode cX8_list 10 = .ok (.bipush 9, 2) := by decide +kernel
theorem dX8_list_12 : decode cX8_list 12 = .ok (.invokestatic 104, 3) := by decide +kernel
theorem dX8_list_15 : decode cX8_list 15 = .ok (.ifCond .ne 5, 3) := by decide +kernel
theorem dX8_list_18 : decode cX8_list 18 = .ok (.iconst (-1), 1) := by decide +kernel
theorem dX8_list_19 : decode cX8_list 19 = .ok (.ireturn, 1) := by decide +kernel
theorem dX8_list_20 : decode cX8_list 20 = .ok (.aload_n 0, 1) := by decide +kernel
theorem dX8_list_21 : decode cX8_list 21 = .ok (.getfield 29, 3) := by decide +kernel
theorem dX8_list_24 : decode cX8_list 24 = .ok (.getfield 114, 3) := by decide +kernel
theorem dX8_list_27 : decode cX8_list 27 = .ok (.iload_n 1, 1) := by decide +kernel
theorem dX8_list_28 : decode cX8_list 28 = .ok (.aaload, 1) := by decide +kernel
theorem dX8_list_29 : decode cX8_list 29 = .ok (.astore_n 3, 1) := by decide +kernel
theorem dX8_list_30 : decode cX8_list 30 = .ok (.iconst 0, 1) := by decide +kernel
theorem dX8_list_31 : decode cX8_list 31 = .ok (.istore 4, 2) := by decide +kernel
theorem dX8_list_33 : decode cX8_list 33 = .ok (.iconst 0, 1) := by decide +kernel
theorem dX8_list_34 : decode cX8_list 34 = .ok (.istore 5, 2) := by decide +kernel
theorem dX8_list_36 : decode cX8_list 36 = .ok (.iconst 0, 1) := by decide +kernel
theorem dX8_list_37 : decode cX8_list 37 = .ok (.istore 6, 2) := by decide +kernel
theorem dX8_list_39 : decode cX8_list 39 = .ok (.iload 6, 2) := by decide +kernel
theorem dX8_list_41 : decode cX8_list 41 = .ok (.aload_n 0, 1) := by decide +kernel
theorem dX8_list_42 : decode cX8_list 42 = .ok (.getfield 29, 3) := by decide +kernel
theorem dX8_list_45 : decode cX8_list 45 = .ok (.getfield 111, 3) := by decide +kernel
theorem dX8_list_48 : decode cX8_list 48 = .ok (.iload_n 1, 1) := by decide +kernel
theorem dX8_list_49 : decode cX8_list 49 = .ok (.iaload, 1) := by decide +kernel
theorem dX8_list_50 : decode cX8_list 50 = .ok (.if_icmp .ge 52, 3) := by decide +kernel
theorem dX8_list_53 : decode cX8_list 53 = .ok (.iload 4, 2) := by decide +kernel
theorem dX8_list_55 : decode cX8_list 55 = .ok (.aload_n 0, 1) := by decide +kernel
theorem dX8_list_56 : decode cX8_list 56 = .ok (.getfield 19, 3) := by decide +kernel
theorem dX8_list_59 : decode cX8_list 59 = .ok (.getfield 193, 3) := by decide +kernel
theorem dX8_list_62 : decode cX8_list 62 = .ok (.aload_n 3, 1) := by decide +kernel
theorem dX8_list_63 : decode cX8_list 63 = .ok (.iload 6, 2) := by decide +kernel
theorem dX8_list_65 : decode cX8_list 65 = .ok (.iaload, 1) := by decide +kernel
theorem dX8_list_66 : decode cX8_list 66 = .ok (.iaload, 1) := by decide +kernel
theorem dX8_list_67 : decode cX8_list 67 = .ok (.iload_n 2, 1) := by decide +kernel
theorem dX8_list_68 : decode cX8_list 68 = .ok (.if_icmp .ne 7, 3) := by decide +kernel
theorem dX8_list_71 : decode cX8_list 71 = .ok (.iconst 1, 1) := by decide +kernel
theorem dX8_list_72 : decode cX8_list 72 = .ok (.goto 4, 3) := by decide +kernel
theorem dX8_list_75 : decode cX8_list 75 = .ok (.iconst 0, 1) := by decide +kernel
theorem dX8_list_76 : decode cX8_list 76 = .ok (.iadd, 1) := by decide +kernel
theorem dX8_list_77 : decode cX8_list 77 = .ok (.istore 4, 2) := by decide +kernel
theorem dX8_list_79 : decode cX8_list 79 = .ok (.iload 5, 2) := by decide +kernel
theorem dX8_list_81 : decode cX8_list 81 = .ok (.aload_n 0, 1) := by decide +kernel
theorem dX8_list_82 : decode cX8_list 82 = .ok (.getfield 19, 3) := by decide +kernel
theorem dX8_list_85 : decode cX8_list 85 = .ok (.getfield 196, 3) := by decide +kernel
theorem dX8_list_88 : decode cX8_list 88 = .ok (.aload_n 3, 1) := by decide +kernel
theorem dX8_list_89 : decode cX8_list 89 = .ok (.iload 6, 2) := by decide +kernel
theorem dX8_list_91 : decode cX8_list 91 = .ok (.iaload, 1) := by decide +kernel
theorem dX8_list_92 : decode cX8_list 92 = .ok (.iaload, 1) := by decide +kernel
theorem dX8_list_93 : decode cX8_list 93 = .ok (.iadd, 1) := by decide +kernel
theorem dX8_list_94 : decode cX8_list 94 = .ok (.istore 5, 2) := by decide +kernel
theorem dX8_list_96 : decode cX8_list 96 = .ok (.iinc 6 1, 3) := by decide +kernel
theorem dX8_list_99 : decode cX8_list 99 = .ok (.goto (-60), 3) := by decide +kernel
theorem dX8_list_102 : decode cX8_list 102 = .ok (.iload_n 2, 1) := by decide +kernel
theorem dX8_list_103 : decode cX8_list 103 = .ok (.bipush 8, 2) := by decide +kernel
theorem dX8_list_105 : decode cX8_list 105 = .ok (.if_icmp .ne 11, 3) := by decide +kernel
theorem dX8_list_108 : decode cX8_list 108 = .ok (.iload 5, 2) := by decide +kernel
theorem dX8_list_110 : decode cX8_list 110 = .ok (.bipush 16, 2) := by decide +kernel
theorem dX8_list_112 : decode cX8_list 112 = .ok (.irem, 1) := by decide +kernel
theorem dX8_list_113 : decode cX8_list 113 = .ok (.goto 5, 3) := by decide +kernel
theorem dX8_list_116 : decode cX8_list 116 = .ok (.iload 4, 2) := by decide +kernel
theorem dX8_list_118 : decode cX8_list 118 = .ok (.ireturn, 1) := by decide +kernel
theorem dX8_head_0 : decode cX8_head 0 = .ok (.iload_n 1, 1) := by decide +kernel
theorem dX8_head_1 : decode cX8_head 1 = .ok (.sipush 3001, 3) := by decide +kernel
theorem dX8_head_4 : decode cX8_head 4 = .ok (.invokestatic 104, 3) := by decide +kernel
theorem dX8_head_7 : decode cX8_head 7 = .ok (.ifCond .eq 24, 3) := by decide +kernel
theorem dX8_head_10 : decode cX8_head 10 = .ok (.iload_n 3, 1) := by decide +kernel
theorem dX8_head_11 : decode cX8_head 11 = .ok (.bipush 6, 2) := by decide +kernel
theorem dX8_head_13 : decode cX8_head 13 = .ok (.invokestatic 104, 3) := by decide +kernel
theorem dX8_head_16 : decode cX8_head 16 = .ok (.ifCond .eq 15, 3) := by decide +kernel
theorem dX8_head_19 : decode cX8_head 19 = .ok (.aload_n 0, 1) := by decide +kernel
theorem dX8_head_20 : decode cX8_head 20 = .ok (.getfield 65, 3) := by decide +kernel
theorem dX8_head_23 : decode cX8_head 23 = .ok (.iload_n 2, 1) := by decide +kernel
theorem dX8_head_24 : decode cX8_head 24 = .ok (.iload_n 1, 1) := by decide +kernel
theorem dX8_head_25 : decode cX8_head 25 = .ok (.invokevirtual 199, 3) := by decide +kernel
theorem dX8_head_28 : decode cX8_head 28 = .ok (.ifCond .ne 5, 3) := by decide +kernel
theorem dX8_head_31 : decode cX8_head 31 = .ok (.iconst (-1), 1) := by decide +kernel
theorem dX8_head_32 : decode cX8_head 32 = .ok (.ireturn, 1) := by decide +kernel
theorem dX8_head_33 : decode cX8_head 33 = .ok (.aload_n 0, 1) := by decide +kernel
theorem dX8_head_34 : decode cX8_head 34 = .ok (.getfield 65, 3) := by decide +kernel
theorem dX8_head_37 : decode cX8_head 37 = .ok (.iload_n 1, 1) := by decide +kernel
theorem dX8_head_38 : decode cX8_head 38 = .ok (.iload_n 2, 1) := by decide +kernel
theorem dX8_head_39 : decode cX8_head 39 = .ok (.iload_n 3, 1) := by decide +kernel
theorem dX8_head_40 : decode cX8_head 40 = .ok (.invokevirtual 202, 3) := by decide +kernel
theorem dX8_head_43 : decode cX8_head 43 = .ok (.ireturn, 1) := by decide +kernel
theorem dX8_alive_0 : decode cX8_alive 0 = .ok (.iload_n 1, 1) := by decide +kernel
theorem dX8_alive_1 : decode cX8_alive 1 = .ok (.aload_n 0, 1) := by decide +kernel
theorem dX8_alive_2 : decode cX8_alive 2 = .ok (.getfield 65, 3) := by decide +kernel
theorem dX8_alive_5 : decode cX8_alive 5 = .ok (.getfield 97, 3) := by decide +kernel
theorem dX8_alive_8 : decode cX8_alive 8 = .ok (.invokestatic 104, 3) := by decide +kernel
theorem dX8_alive_11 : decode cX8_alive 11 = .ok (.ifCond .ne 5, 3) := by decide +kernel
theorem dX8_alive_14 : decode cX8_alive 14 = .ok (.iconst (-1), 1) := by decide +kernel
theorem dX8_alive_15 : decode cX8_alive 15 = .ok (.ireturn, 1) := by decide +kernel
theorem dX8_alive_16 : decode cX8_alive 16 = .ok (.aload_n 0, 1) := by decide +kernel
theorem dX8_alive_17 : decode cX8_alive 17 = .ok (.getfield 65, 3) := by decide +kernel
theorem dX8_alive_20 : decode cX8_alive 20 = .ok (.getfield 203, 3) := by decide +kernel
theorem dX8_alive_23 : decode cX8_alive 23 = .ok (.iload_n 1, 1) := by decide +kernel
theorem dX8_alive_24 : decode cX8_alive 24 = .ok (.baload, 1) := by decide +kernel
theorem dX8_alive_25 : decode cX8_alive 25 = .ok (.ifCond .eq 7, 3) := by decide +kernel
theorem dX8_alive_28 : decode cX8_alive 28 = .ok (.iconst 1, 1) := by decide +kernel
theorem dX8_alive_29 : decode cX8_alive 29 = .ok (.goto 4, 3) := by decide +kernel
theorem dX8_alive_32 : decode cX8_alive 32 = .ok (.iconst 0, 1) := by decide +kernel
theorem dX8_alive_33 : decode cX8_alive 33 = .ok (.istore_n 3, 1) := by decide +kernel
theorem dX8_alive_34 : decode cX8_alive 34 = .ok (.aload_n 0, 1) := by decide +kernel
theorem dX8_alive_35 : decode cX8_alive 35 = .ok (.getfield 65, 3) := by decide +kernel
theorem dX8_alive_38 : decode cX8_alive 38 = .ok (.getfield 203, 3) := by decide +kernel
theorem dX8_alive_41 : decode cX8_alive 41 = .ok (.iload_n 1, 1) := by decide +kernel
theorem dX8_alive_42 : decode cX8_alive 42 = .ok (.iload_n 2, 1) := by decide +kernel
theorem dX8_alive_43 : decode cX8_alive 43 = .ok (.bastore, 1) := by decide +kernel
theorem dX8_alive_44 : decode cX8_alive 44 = .ok (.iload_n 3, 1) := by decide +kernel
theorem dX8_alive_45 : decode cX8_alive 45 = .ok (.ireturn, 1) := by decide +kernel
theorem dX8_same_0 : decode cX8_same 0 = .ok (.iload_n 1, 1) := by decide +kernel
theorem dX8_same_1 : decode cX8_same 1 = .ok (.bipush 8, 2) := by decide +kernel
theorem dX8_same_3 : decode cX8_same 3 = .ok (.invokestatic 104, 3) := by decide +kernel
theorem dX8_same_6 : decode cX8_same 6 = .ok (.ifCond .ne 5, 3) := by decide +kernel
theorem dX8_same_9 : decode cX8_same 9 = .ok (.iconst (-1), 1) := by decide +kernel
theorem dX8_same_10 : decode cX8_same 10 = .ok (.ireturn, 1) := by decide +kernel
theorem dX8_same_11 : decode cX8_same 11 = .ok (.aload_n 0, 1) := by decide +kernel
theorem dX8_same_12 : decode cX8_same 12 = .ok (.getfield 65, 3) := by decide +kernel
theorem dX8_same_15 : decode cX8_same 15 = .ok (.aload_n 0, 1) := by decide +kernel
theorem dX8_same_16 : decode cX8_same 16 = .ok (.getfield 29, 3) := by decide +kernel
theorem dX8_same_19 : decode cX8_same 19 = .ok (.iload_n 1, 1) := by decide +kernel
theorem dX8_same_20 : decode cX8_same 20 = .ok (.invokevirtual 207, 3) := by decide +kernel
theorem dX8_same_23 : decode cX8_same 23 = .ok (.ifCond .eq 7, 3) := by decide +kernel
theorem dX8_same_26 : decode cX8_same 26 = .ok (.iconst 1, 1) := by decide +kernel
theorem dX8_same_27 : decode cX8_same 27 = .ok (.goto 4, 3) := by decide +kernel
theorem dX8_same_30 : decode cX8_same 30 = .ok (.iconst 0, 1) := by decide +kernel
theorem dX8_same_31 : decode cX8_same 31 = .ok (.ireturn, 1) := by decide +kernel
theorem dX8_since_0 : decode cX8_since 0 = .ok (.iload_n 1, 1) := by decide +kernel
theorem dX8_since_1 : decode cX8_since 1 = .ok (.bipush 8, 2) := by decide +kernel
theorem dX8_since_3 : decode cX8_since 3 = .ok (.invokestatic 104, 3) := by decide +kernel
theorem dX8_since_6 : decode cX8_since 6 = .ok (.ifCond .eq 17, 3) := by decide +kernel
theorem dX8_since_9 : decode cX8_since 9 = .ok (.iload_n 2, 1) := by decide +kernel
theorem dX8_since_10 : decode cX8_since 10 = .ok (.aload_n 0, 1) := by decide +kernel
theorem dX8_since_11 : decode cX8_since 11 = .ok (.getfield 19, 3) := by decide +kernel
theorem dX8_since_14 : decode cX8_since 14 = .ok (.getfield 101, 3) := by decide +kernel
theorem dX8_since_17 : decode cX8_since 17 = .ok (.invokestatic 104, 3) := by decide +kernel
theorem dX8_since_20 : decode cX8_since 20 = .ok (.ifCond .ne 5, 3) := by decide +kernel
theorem dX8_since_23 : decode cX8_since 23 = .ok (.iconst (-1), 1) := by decide +kernel
theorem dX8_since_24 : decode cX8_since 24 = .ok (.ireturn, 1) := by decide +kernel
theorem dX8_since_25 : decode cX8_since 25 = .ok (.aload_n 0, 1) := by decide +kernel
theorem dX8_since_26 : decode cX8_since 26 = .ok (.getfield 65, 3) := by decide +kernel
theorem dX8_since_29 : decode cX8_since 29 = .ok (.aload_n 0, 1) := by decide +kernel
theorem dX8_since_30 : decode cX8_since 30 = .ok (.getfield 29, 3) := by decide +kernel
theorem dX8_since_33 : decode cX8_since 33 = .ok (.iload_n 1, 1) := by decide +kernel
theorem dX8_since_34 : decode cX8_since 34 = .ok (.iload_n 2, 1) := by decide +kernel
theorem dX8_since_35 : decode cX8_since 35 = .ok (.invokevirtual 211, 3) := by decide +kernel
theorem dX8_since_38 : decode cX8_since 38 = .ok (.ifCond .eq 13, 3) := by decide +kernel
theorem dX8_since_41 : decode cX8_since 41 = .ok (.aload_n 0, 1) := by decide +kernel
theorem dX8_since_42 : decode cX8_since 42 = .ok (.getfield 65, 3) := by decide +kernel
theorem dX8_since_45 : decode cX8_since 45 = .ok (.invokevirtual 215, 3) := by decide +kernel
theorem dX8_since_48 : decode cX8_since 48 = .ok (.goto 5, 3) := by decide +kernel
theorem dX8_since_51 : decode cX8_since 51 = .ok (.bipush (-4), 2) := by decide +kernel
theorem dX8_since_53 : decode cX8_since 53 = .ok (.ireturn, 1) := by decide +kernel
theorem dX8_lost_0 : decode cX8_lost 0 = .ok (.aload_n 0, 1) := by decide +kernel
theorem dX8_lost_1 : decode cX8_lost 1 = .ok (.getfield 65, 3) := by decide +kernel
theorem dX8_lost_4 : decode cX8_lost 4 = .ok (.iload_n 1, 1) := by decide +kernel
theorem dX8_lost_5 : decode cX8_lost 5 = .ok (.invokevirtual 218, 3) := by decide +kernel
theorem dX8_lost_8 : decode cX8_lost 8 = .ok (.ifCond .ne 5, 3) := by decide +kernel
theorem dX8_lost_11 : decode cX8_lost 11 = .ok (.iconst (-1), 1) := by decide +kernel
theorem dX8_lost_12 : decode cX8_lost 12 = .ok (.ireturn, 1) := by decide +kernel
theorem dX8_lost_13 : decode cX8_lost 13 = .ok (.aload_n 0, 1) := by decide +kernel
theorem dX8_lost_14 : decode cX8_lost 14 = .ok (.getfield 65, 3) := by decide +kernel
theorem dX8_lost_17 : decode cX8_lost 17 = .ok (.iload_n 1, 1) := by decide +kernel
theorem dX8_lost_18 : decode cX8_lost 18 = .ok (.invokevirtual 222, 3) := by decide +kernel
theorem dX8_lost_21 : decode cX8_lost 21 = .ok (.aload_n 0, 1) := by decide +kernel
theorem dX8_lost_22 : decode cX8_lost 22 = .ok (.getfield 65, 3) := by decide +kernel
theorem dX8_lost_25 : decode cX8_lost 25 = .ok (.iload_n 1, 1) := by decide +kernel
theorem dX8_lost_26 : decode cX8_lost 26 = .ok (.iconst (-1), 1) := by decide +kernel
theorem dX8_lost_27 : decode cX8_lost 27 = .ok (.ixor, 1) := by decide +kernel
theorem dX8_lost_28 : decode cX8_lost 28 = .ok (.invokevirtual 222, 3) := by decide +kernel
theorem dX8_lost_31 : decode cX8_lost 31 = .ok (.iconst (-1), 1) := by decide +kernel
theorem dX8_lost_32 : decode cX8_lost 32 = .ok (.ixor, 1) := by decide +kernel
theorem dX8_lost_33 : decode cX8_lost 33 = .ok (.iand, 1) := by decide +kernel
theorem dX8_lost_34 : decode cX8_lost 34 = .ok (.ireturn, 1) := by decide +kernel
theorem dX8_from_0 : decode cX8_from 0 = .ok (.aload_n 0, 1) := by decide +kernel
theorem dX8_from_1 : decode cX8_from 1 = .ok (.getfield 65, 3) := by decide +kernel
theorem dX8_from_4 : decode cX8_from 4 = .ok (.iload_n 1, 1) := by decide +kernel
theorem dX8_from_5 : decode cX8_from 5 = .ok (.invokevirtual 218, 3) := by decide +kernel
theorem dX8_from_8 : decode cX8_from 8 = .ok (.ifCond .eq 12, 3) := by decide +kernel
theorem dX8_from_11 : decode cX8_from 11 = .ok (.iload_n 2, 1) := by decide +kernel
theorem dX8_from_12 : decode cX8_from 12 = .ok (.bipush 6, 2) := by decide +kernel
theorem dX8_from_14 : decode cX8_from 14 = .ok (.invokestatic 104, 3) := by decide +kernel
theorem dX8_from_17 : decode cX8_from 17 = .ok (.ifCond .ne 5, 3) := by decide +kernel
theorem dX8_from_20 : decode cX8_from 20 = .ok (.iconst (-1), 1) := by decide +kernel
theorem dX8_from_21 : decode cX8_from 21 = .ok (.ireturn, 1) := by decide +kernel
theorem dX8_from_22 : decode cX8_from 22 = .ok (.aload_n 0, 1) := by decide +kernel
theorem dX8_from_23 : decode cX8_from 23 = .ok (.getfield 65, 3) := by decide +kernel
theorem dX8_from_26 : decode cX8_from 26 = .ok (.iload_n 1, 1) := by decide +kernel
theorem dX8_from_27 : decode cX8_from 27 = .ok (.iconst (-1), 1) := by decide +kernel
theorem dX8_from_28 : decode cX8_from 28 = .ok (.ixor, 1) := by decide +kernel
theorem dX8_from_29 : decode cX8_from 29 = .ok (.iload_n 2, 1) := by decide +kernel
theorem dX8_from_30 : decode cX8_from 30 = .ok (.invokevirtual 225, 3) := by decide +kernel
theorem dX8_from_33 : decode cX8_from 33 = .ok (.ireturn, 1) := by decide +kernel
theorem dX8_odds_0 : decode cX8_odds 0 = .ok (.iload_n 1, 1) := by decide +kernel
theorem dX8_odds_1 : decode cX8_odds 1 = .ok (.bipush 101, 2) := by decide +kernel
theorem dX8_odds_3 : decode cX8_odds 3 = .ok (.invokestatic 104, 3) := by decide +kernel
theorem dX8_odds_6 : decode cX8_odds 6 = .ok (.ifCond .eq 31, 3) := by decide +kernel
theorem dX8_odds_9 : decode cX8_odds 9 = .ok (.iload_n 2, 1) := by decide +kernel
theorem dX8_odds_10 : decode cX8_odds 10 = .ok (.bipush 101, 2) := by decide +kernel
theorem dX8_odds_12 : decode cX8_odds 12 = .ok (.invokestatic 104, 3) := by decide +kernel
theorem dX8_odds_15 : decode cX8_odds 15 = .ok (.ifCond .eq 22, 3) := by decide +kernel
theorem dX8_odds_18 : decode cX8_odds 18 = .ok (.iload_n 3, 1) := by decide +kernel
theorem dX8_odds_19 : decode cX8_odds 19 = .ok (.iconst 1, 1) := by decide +kernel
theorem dX8_odds_20 : decode cX8_odds 20 = .ok (.if_icmp .lt 17, 3) := by decide +kernel
theorem dX8_odds_23 : decode cX8_odds 23 = .ok (.iload_n 3, 1) := by decide +kernel
theorem dX8_odds_24 : decode cX8_odds 24 = .ok (.iconst 4, 1) := by decide +kernel
theorem dX8_odds_25 : decode cX8_odds 25 = .ok (.if_icmp .gt 12, 3) := by decide +kernel
theorem dX8_odds_28 : decode cX8_odds 28 = .ok (.iload 4, 2) := by decide +kernel
theorem dX8_odds_30 : decode cX8_odds 30 = .ok (.iconst 2, 1) := by decide +kernel
theorem dX8_odds_31 : decode cX8_odds 31 = .ok (.invokestatic 104, 3) := by decide +kernel
theorem dX8_odds_34 : decode cX8_odds 34 = .ok (.ifCond .ne 7, 3) := by decide +kernel
theorem dX8_odds_37 : decode cX8_odds 37 = .ok (.ldc2_w 228, 3) := by decide +kernel
theorem dX8_odds_40 : decode cX8_odds 40 = .ok (.lreturn, 1) := by decide +kernel
theorem dX8_odds_41 : decode cX8_odds 41 = .ok (.sipush 10000, 3) := by decide +kernel
theorem dX8_odds_44 : decode cX8_odds 44 = .ok (.iload_n 1, 1) := by decide +kernel
theorem dX8_odds_45 : decode cX8_odds 45 = .ok (.bipush 100, 2) := by decide +kernel
theorem dX8_odds_47 : decode cX8_odds 47 = .ok (.iload_n 2, 1) := by decide +kernel
theorem dX8_odds_48 : decode cX8_odds 48 = .ok (.isub, 1) := by decide +kernel
theorem dX8_odds_49 : decode cX8_odds 49 = .ok (.imul, 1) := by decide +kernel
theorem dX8_odds_50 : decode cX8_odds 50 = .ok (.isub, 1) := by decide +kernel
theorem dX8_odds_51 : decode cX8_odds 51 = .ok (.istore 5, 2) := by decide +kernel
theorem dX8_odds_53 : decode cX8_odds 53 = .ok (.iload 5, 2) := by decide +kernel
theorem dX8_odds_55 : decode cX8_odds 55 = .ok (.sipush 10000, 3) := by decide +kernel
theorem dX8_odds_58 : decode cX8_odds 58 = .ok (.invokestatic 230, 3) := by decide +kernel
theorem dX8_odds_61 : decode cX8_odds 61 = .ok (.istore 6, 2) := by decide +kernel
theorem dX8_odds_63 : decode cX8_odds 63 = .ok (.iload 4, 2) := by decide +kernel
theorem dX8_odds_65 : decode cX8_odds 65 = .ok (.ifCond .ne 8, 3) := by decide +kernel
theorem dX8_odds_68 : decode cX8_odds 68 = .ok (.iload 5, 2) := by decide +kernel
theorem dX8_odds_70 : decode cX8_odds 70 = .ok (.goto 6, 3) := by decide +kernel
theorem dX8_odds_73 : decode cX8_odds 73 = .ok (.sipush 10000, 3) := by decide +kernel
theorem dX8_odds_76 : decode cX8_odds 76 = .ok (.iload 6, 2) := by decide +kernel
theorem dX8_odds_78 : decode cX8_odds 78 = .ok (.idiv, 1) := by decide +kernel
theorem dX8_odds_79 : decode cX8_odds 79 = .ok (.istore 7, 2) := by decide +kernel
theorem dX8_odds_81 : decode cX8_odds 81 = .ok (.lconst 1, 1) := by decide +kernel
theorem dX8_odds_82 : decode cX8_odds 82 = .ok (.lstore 8, 2) := by decide +kernel
theorem dX8_odds_84 : decode cX8_odds 84 = .ok (.iconst 0, 1) := by decide +kernel
theorem dX8_odds_85 : decode cX8_odds 85 = .ok (.istore 10, 2) := by decide +kernel
theorem dX8_odds_87 : decode cX8_odds 87 = .ok (.iload 10, 2) := by decide +kernel
theorem dX8_odds_89 : decode cX8_odds 89 = .ok (.iload_n 3, 1) := by decide +kernel
theorem dX8_odds_90 : decode cX8_odds 90 = .ok (.if_icmp .ge 17, 3) := by decide +kernel
theorem dX8_odds_93 : decode cX8_odds 93 = .ok (.lload 8, 2) := by decide +kernel
theorem dX8_odds_95 : decode cX8_odds 95 = .ok (.iload 7, 2) := by decide +kernel
theorem dX8_odds_97 : decode cX8_odds 97 = .ok (.i2l, 1) := by decide +kernel
theorem dX8_odds_98 : decode cX8_odds 98 = .ok (.lmul, 1) := by decide +kernel
theorem dX8_odds_99 : decode cX8_odds 99 = .ok (.lstore 8, 2) := by decide +kernel
theorem dX8_odds_101 : decode cX8_odds 101 = .ok (.iinc 10 1, 3) := by decide +kernel
theorem dX8_odds_104 : decode cX8_odds 104 = .ok (.goto (-17), 3) := by decide +kernel
theorem dX8_odds_107 : decode cX8_odds 107 = .ok (.lload 8, 2) := by decide +kernel
theorem dX8_odds_109 : decode cX8_odds 109 = .ok (.lreturn, 1) := by decide +kernel
theorem dX8_keep_0 : decode cX8_keep 0 = .ok (.aload_n 0, 1) := by decide +kernel
theorem dX8_keep_1 : decode cX8_keep 1 = .ok (.getfield 98, 3) := by decide +kernel
theorem dX8_keep_4 : decode cX8_keep 4 = .ok (.iconst 2, 1) := by decide +kernel
theorem dX8_keep_5 : decode cX8_keep 5 = .ok (.if_icmp .lt 6, 3) := by decide +kernel
theorem dX8_keep_8 : decode cX8_keep 8 = .ok (.bipush (-3), 2) := by decide +kernel
theorem dX8_keep_10 : decode cX8_keep 10 = .ok (.ireturn, 1) := by decide +kernel
theorem dX8_keep_11 : decode cX8_keep 11 = .ok (.aload_n 0, 1) := by decide +kernel
theorem dX8_keep_12 : decode cX8_keep 12 = .ok (.aload_n 0, 1) := by decide +kernel
theorem dX8_keep_13 : decode cX8_keep 13 = .ok (.getfield 98, 3) := by decide +kernel
theorem dX8_keep_16 : decode cX8_keep 16 = .ok (.invokevirtual 233, 3) := by decide +kernel
theorem dX8_keep_19 : decode cX8_keep 19 = .ok (.aload_n 0, 1) := by decide +kernel
theorem dX8_keep_20 : decode cX8_keep 20 = .ok (.getfield 29, 3) := by decide +kernel
theorem dX8_keep_23 : decode cX8_keep 23 = .ok (.invokevirtual 237, 3) := by decide +kernel
theorem dX8_keep_26 : decode cX8_keep 26 = .ok (.aload_n 0, 1) := by decide +kernel
theorem dX8_keep_27 : decode cX8_keep 27 = .ok (.dup, 1) := by decide +kernel
theorem dX8_keep_28 : decode cX8_keep 28 = .ok (.getfield 98, 3) := by decide +kernel
theorem dX8_keep_31 : decode cX8_keep 31 = .ok (.iconst 1, 1) := by decide +kernel
theorem dX8_keep_32 : decode cX8_keep 32 = .ok (.iadd, 1) := by decide +kernel
theorem dX8_keep_33 : decode cX8_keep 33 = .ok (.putfield 98, 3) := by decide +kernel
theorem dX8_keep_36 : decode cX8_keep 36 = .ok (.aload_n 0, 1) := by decide +kernel
theorem dX8_keep_37 : decode cX8_keep 37 = .ok (.getfield 98, 3) := by decide +kernel
theorem dX8_keep_40 : decode cX8_keep 40 = .ok (.ireturn, 1) := by decide +kernel
theorem dX8_back_0 : decode cX8_back 0 = .ok (.aload_n 0, 1) := by decide +kernel
theorem dX8_back_1 : decode cX8_back 1 = .ok (.getfield 98, 3) := by decide +kernel
theorem dX8_back_4 : decode cX8_back 4 = .ok (.ifCond .gt 6, 3) := by decide +kernel
theorem dX8_back_7 : decode cX8_back 7 = .ok (.bipush (-2), 2) := by decide +kernel
theorem dX8_back_9 : decode cX8_back 9 = .ok (.ireturn, 1) := by decide +kernel
theorem dX8_back_10 : decode cX8_back 10 = .ok (.aload_n 0, 1) := by decide +kernel
theorem dX8_back_11 : decode cX8_back 11 = .ok (.dup, 1) := by decide +kernel
theorem dX8_back_12 : decode cX8_back 12 = .ok (.getfield 98, 3) := by decide +kernel
theorem dX8_back_15 : decode cX8_back 15 = .ok (.iconst 1, 1) := by decide +kernel
theorem dX8_back_16 : decode cX8_back 16 = .ok (.isub, 1) := by decide +kernel
theorem dX8_back_17 : decode cX8_back 17 = .ok (.putfield 98, 3) := by decide +kernel
theorem dX8_back_20 : decode cX8_back 20 = .ok (.aload_n 0, 1) := by decide +kernel
theorem dX8_back_21 : decode cX8_back 21 = .ok (.getfield 29, 3) := by decide +kernel
theorem dX8_back_24 : decode cX8_back 24 = .ok (.aload_n 0, 1) := by decide +kernel
theorem dX8_back_25 : decode cX8_back 25 = .ok (.aload_n 0, 1) := by decide +kernel
theorem dX8_back_26 : decode cX8_back 26 = .ok (.getfield 98, 3) := by decide +kernel
theorem dX8_back_29 : decode cX8_back 29 = .ok (.invokevirtual 233, 3) := by decide +kernel
theorem dX8_back_32 : decode cX8_back 32 = .ok (.invokevirtual 237, 3) := by decide +kernel
theorem dX8_back_35 : decode cX8_back 35 = .ok (.aload_n 0, 1) := by decide +kernel
theorem dX8_back_36 : decode cX8_back 36 = .ok (.getfield 98, 3) := by decide +kernel
theorem dX8_back_39 : decode cX8_back 39 = .ok (.ireturn, 1) := by decide +kernel
theorem dX8_count_0 : decode cX8_count 0 = .ok (.iload_n 1, 1) := by decide +kernel
theorem dX8_count_1 : decode cX8_count 1 = .ok (.tableswitch 96 0 6 #[43, 51, 59, 67, 75, 83, 88], 43) := by decide +kernel
theorem dX8_count_44 : decode cX8_count 44 = .ok (.aload_n 0, 1) := by decide +kernel
theorem dX8_count_45 : decode cX8_count 45 = .ok (.getfield 19, 3) := by decide +kernel
theorem dX8_count_48 : decode cX8_count 48 = .ok (.getfield 101, 3) := by decide +kernel
theorem dX8_count_51 : decode cX8_count 51 = .ok (.ireturn, 1) := by decide +kernel
theorem dX8_count_52 : decode cX8_count 52 = .ok (.aload_n 0, 1) := by decide +kernel
theorem dX8_count_53 : decode cX8_count 53 = .ok (.getfield 12, 3) := by decide +kernel
theorem dX8_count_56 : decode cX8_count 56 = .ok (.getfield 80, 3) := by decide +kernel
theorem dX8_count_59 : decode cX8_count 59 = .ok (.ireturn, 1) := by decide +kernel
theorem dX8_count_60 : decode cX8_count 60 = .ok (.aload_n 0, 1) := by decide +kernel
theorem dX8_count_61 : decode cX8_count 61 = .ok (.getfield 29, 3) := by decide +kernel
theorem dX8_count_64 : decode cX8_count 64 = .ok (.getfield 129, 3) := by decide +kernel
theorem dX8_count_67 : decode cX8_count 67 = .ok (.ireturn, 1) := by decide +kernel
theorem dX8_count_68 : decode cX8_count 68 = .ok (.aload_n 0, 1) := by decide +kernel
theorem dX8_count_69 : decode cX8_count 69 = .ok (.getfield 58, 3) := by decide +kernel
theorem dX8_count_72 : decode cX8_count 72 = .ok (.getfield 94, 3) := by decide +kernel
theorem dX8_count_75 : decode cX8_count 75 = .ok (.ireturn, 1) := by decide +kernel
theorem dX8_count_76 : decode cX8_count 76 = .ok (.aload_n 0, 1) := by decide +kernel
theorem dX8_count_77 : decode cX8_count 77 = .ok (.getfield 65, 3) := by decide +kernel
theorem dX8_count_80 : decode cX8_count 80 = .ok (.getfield 97, 3) := by decide +kernel
theorem dX8_count_83 : decode cX8_count 83 = .ok (.ireturn, 1) := by decide +kernel
theorem dX8_count_84 : decode cX8_count 84 = .ok (.aload_n 0, 1) := by decide +kernel
theorem dX8_count_85 : decode cX8_count 85 = .ok (.getfield 98, 3) := by decide +kernel
theorem dX8_count_88 : decode cX8_count 88 = .ok (.ireturn, 1) := by decide +kernel
theorem dX8_count_89 : decode cX8_count 89 = .ok (.aload_n 0, 1) := by decide +kernel
theorem dX8_count_90 : decode cX8_count 90 = .ok (.getfield 29, 3) := by decide +kernel
theorem dX8_count_93 : decode cX8_count 93 = .ok (.invokevirtual 241, 3) := by decide +kernel
theorem dX8_count_96 : decode cX8_count 96 = .ok (.ireturn, 1) := by decide +kernel
theorem dX8_count_97 : decode cX8_count 97 = .ok (.iconst (-1), 1) := by decide +kernel
theorem dX8_count_98 : decode cX8_count 98 = .ok (.ireturn, 1) := by decide +kernel
theorem dX8_isBelow_0 : decode cX8_isBelow 0 = .ok (.iload_n 0, 1) := by decide +kernel
theorem dX8_isBelow_1 : decode cX8_isBelow 1 = .ok (.ifCond .lt 12, 3) := by decide +kernel
theorem dX8_isBelow_4 : decode cX8_isBelow 4 = .ok (.iload_n 0, 1) := by decide +kernel
theorem dX8_isBelow_5 : decode cX8_isBelow 5 = .ok (.iload_n 1, 1) := by decide +kernel
theorem dX8_isBelow_6 : decode cX8_isBelow 6 = .ok (.if_icmp .ge 7, 3) := by decide +kernel
theorem dX8_isBelow_9 : decode cX8_isBelow 9 = .ok (.iconst 1, 1) := by decide +kernel
theorem dX8_isBelow_10 : decode cX8_isBelow 10 = .ok (.goto 4, 3) := by decide +kernel
theorem dX8_isBelow_13 : decode cX8_isBelow 13 = .ok (.iconst 0, 1) := by decide +kernel
theorem dX8_isBelow_14 : decode cX8_isBelow 14 = .ok (.ireturn, 1) := by decide +kernel
theorem dX8_keptAt_0 : decode cX8_keptAt 0 = .ok (.iload_n 1, 1) := by decide +kernel
theorem dX8_keptAt_1 : decode cX8_keptAt 1 = .ok (.ifCond .ne 10, 3) := by decide +kernel
theorem dX8_keptAt_4 : decode cX8_keptAt 4 = .ok (.aload_n 0, 1) := by decide +kernel
theorem dX8_keptAt_5 : decode cX8_keptAt 5 = .ok (.getfield 33, 3) := by decide +kernel
theorem dX8_keptAt_8 : decode cX8_keptAt 8 = .ok (.goto 7, 3) := by decide +kernel
theorem dX8_keptAt_11 : decode cX8_keptAt 11 = .ok (.aload_n 0, 1) := by decide +kernel
theorem dX8_keptAt_12 : decode cX8_keptAt 12 = .ok (.getfield 36, 3) := by decide +kernel
theorem dX8_keptAt_15 : decode cX8_keptAt 15 = .ok (.areturn, 1) := by decide +kernel
theorem dX8_commonDivisor_0 : decode cX8_commonDivisor 0 = .ok (.iload_n 0, 1) := by decide +kernel
theorem dX8_commonDivisor_1 : decode cX8_commonDivisor 1 = .ok (.istore_n 2, 1) := by decide +kernel
theorem dX8_commonDivisor_2 : decode cX8_commonDivisor 2 = .ok (.iload_n 1, 1) := by decide +kernel
theorem dX8_commonDivisor_3 : decode cX8_commonDivisor 3 = .ok (.istore_n 3, 1) := by decide +kernel
theorem dX8_commonDivisor_4 : decode cX8_commonDivisor 4 = .ok (.iconst 0, 1) := by decide +kernel
theorem dX8_commonDivisor_5 : decode cX8_commonDivisor 5 = .ok (.istore 4, 2) := by decide +kernel
theorem dX8_commonDivisor_7 : decode cX8_commonDivisor 7 = .ok (.iload 4, 2) := by decide +kernel
theorem dX8_commonDivisor_9 : decode cX8_commonDivisor 9 = .ok (.bipush 64, 2) := by decide +kernel
theorem dX8_commonDivisor_11 : decode cX8_commonDivisor 11 = .ok (.if_icmp .ge 23, 3) := by decide +kernel
theorem dX8_commonDivisor_14 : decode cX8_commonDivisor 14 = .ok (.iload_n 3, 1) := by decide +kernel
theorem dX8_commonDivisor_15 : decode cX8_commonDivisor 15 = .ok (.ifCond .le 19, 3) := by decide +kernel
theorem dX8_commonDivisor_18 : decode cX8_commonDivisor 18 = .ok (.iload_n 2, 1) := by decide +kernel
theorem dX8_commonDivisor_19 : decode cX8_commonDivisor 19 = .ok (.iload_n 3, 1) := by decide +kernel
theorem dX8_commonDivisor_20 : decode cX8_commonDivisor 20 = .ok (.irem, 1) := by decide +kernel
theorem dX8_commonDivisor_21 : decode cX8_commonDivisor 21 = .ok (.istore 5, 2) := by decide +kernel
theorem dX8_commonDivisor_23 : decode cX8_commonDivisor 23 = .ok (.iload_n 3, 1) := by decide +kernel
theorem dX8_commonDivisor_24 : decode cX8_commonDivisor 24 = .ok (.istore_n 2, 1) := by decide +kernel
theorem dX8_commonDivisor_25 : decode cX8_commonDivisor 25 = .ok (.iload 5, 2) := by decide +kernel
theorem dX8_commonDivisor_27 : decode cX8_commonDivisor 27 = .ok (.istore_n 3, 1) := by decide +kernel
theorem dX8_commonDivisor_28 : decode cX8_commonDivisor 28 = .ok (.iinc 4 1, 3) := by decide +kernel
theorem dX8_commonDivisor_31 : decode cX8_commonDivisor 31 = .ok (.goto (-24), 3) := by decide +kernel
theorem dX8_commonDivisor_34 : decode cX8_commonDivisor 34 = .ok (.iconst 1, 1) := by decide +kernel
theorem dX8_commonDivisor_35 : decode cX8_commonDivisor 35 = .ok (.iload_n 2, 1) := by decide +kernel
theorem dX8_commonDivisor_36 : decode cX8_commonDivisor 36 = .ok (.invokestatic 162, 3) := by decide +kernel
theorem dX8_commonDivisor_39 : decode cX8_commonDivisor 39 = .ok (.ireturn, 1) := by decide +kernel
theorem dX8_weighSaying_0 : decode cX8_weighSaying 0 = .ok (.aload_n 0, 1) := by decide +kernel
theorem dX8_weighSaying_1 : decode cX8_weighSaying 1 = .ok (.getfield 51, 3) := by decide +kernel
theorem dX8_weighSaying_4 : decode cX8_weighSaying 4 = .ok (.aload_n 0, 1) := by decide +kernel
theorem dX8_weighSaying_5 : decode cX8_weighSaying 5 = .ok (.getfield 19, 3) := by decide +kernel
theorem dX8_weighSaying_8 : decode cX8_weighSaying 8 = .ok (.aload_n 0, 1) := by decide +kernel
theorem dX8_weighSaying_9 : decode cX8_weighSaying 9 = .ok (.getfield 29, 3) := by decide +kernel
theorem dX8_weighSaying_12 : decode cX8_weighSaying 12 = .ok (.getfield 135, 3) := by decide +kernel
theorem dX8_weighSaying_15 : decode cX8_weighSaying 15 = .ok (.invokevirtual 244, 3) := by decide +kernel
theorem dX8_weighSaying_18 : decode cX8_weighSaying 18 = .ok (.aload_n 0, 1) := by decide +kernel
theorem dX8_weighSaying_19 : decode cX8_weighSaying 19 = .ok (.getfield 42, 3) := by decide +kernel
theorem dX8_weighSaying_22 : decode cX8_weighSaying 22 = .ok (.aload_n 0, 1) := by decide +kernel
theorem dX8_weighSaying_23 : decode cX8_weighSaying 23 = .ok (.getfield 29, 3) := by decide +kernel
theorem dX8_weighSaying_26 : decode cX8_weighSaying 26 = .ok (.getfield 132, 3) := by decide +kernel
theorem dX8_weighSaying_29 : decode cX8_weighSaying 29 = .ok (.aload_n 0, 1) := by decide +kernel
theorem dX8_weighSaying_30 : decode cX8_weighSaying 30 = .ok (.getfield 29, 3) := by decide +kernel
theorem dX8_weighSaying_33 : decode cX8_weighSaying 33 = .ok (.getfield 135, 3) := by decide +kernel
theorem dX8_weighSaying_36 : decode cX8_weighSaying 36 = .ok (.invokevirtual 117, 3) := by decide +kernel
theorem dX8_weighSaying_39 : decode cX8_weighSaying 39 = .ok (.iconst 0, 1) := by decide +kernel
theorem dX8_weighSaying_40 : decode cX8_weighSaying 40 = .ok (.istore_n 1, 1) := by decide +kernel
theorem dX8_weighSaying_41 : decode cX8_weighSaying 41 = .ok (.iload_n 1, 1) := by decide +kernel
theorem dX8_weighSaying_42 : decode cX8_weighSaying 42 = .ok (.aload_n 0, 1) := by decide +kernel
theorem dX8_weighSaying_43 : decode cX8_weighSaying 43 = .ok (.getfield 42, 3) := by decide +kernel
theorem dX8_weighSaying_46 : decode cX8_weighSaying 46 = .ok (.getfield 121, 3) := by decide +kernel
theorem dX8_weighSaying_49 : decode cX8_weighSaying 49 = .ok (.if_icmp .ge 53, 3) := by decide +kernel
theorem dX8_weighSaying_52 : decode cX8_weighSaying 52 = .ok (.aload_n 0, 1) := by decide +kernel
theorem dX8_weighSaying_53 : decode cX8_weighSaying 53 = .ok (.getfield 51, 3) := by decide +kernel
theorem dX8_weighSaying_56 : decode cX8_weighSaying 56 = .ok (.getfield 248, 3) := by decide +kernel
theorem dX8_weighSaying_59 : decode cX8_weighSaying 59 = .ok (.aload_n 0, 1) := by decide +kernel
theorem dX8_weighSaying_60 : decode cX8_weighSaying 60 = .ok (.getfield 42, 3) := by decide +kernel
theorem dX8_weighSaying_63 : decode cX8_weighSaying 63 = .ok (.iload_n 1, 1) := by decide +kernel
theorem dX8_weighSaying_64 : decode cX8_weighSaying 64 = .ok (.invokevirtual 252, 3) := by decide +kernel
theorem dX8_weighSaying_67 : decode cX8_weighSaying 67 = .ok (.aload_n 0, 1) := by decide +kernel
theorem dX8_weighSaying_68 : decode cX8_weighSaying 68 = .ok (.getfield 42, 3) := by decide +kernel
theorem dX8_weighSaying_71 : decode cX8_weighSaying 71 = .ok (.getfield 255, 3) := by decide +kernel
theorem dX8_weighSaying_74 : decode cX8_weighSaying 74 = .ok (.iload_n 1, 1) := by decide +kernel
theorem dX8_weighSaying_75 : decode cX8_weighSaying 75 = .ok (.iaload, 1) := by decide +kernel
theorem dX8_weighSaying_76 : decode cX8_weighSaying 76 = .ok (.aload_n 0, 1) := by decide +kernel
theorem dX8_weighSaying_77 : decode cX8_weighSaying 77 = .ok (.getfield 42, 3) := by decide +kernel
theorem dX8_weighSaying_80 : decode cX8_weighSaying 80 = .ok (.iload_n 1, 1) := by decide +kernel
theorem dX8_weighSaying_81 : decode cX8_weighSaying 81 = .ok (.invokevirtual 257, 3) := by decide +kernel
theorem dX8_weighSaying_84 : decode cX8_weighSaying 84 = .ok (.aload_n 0, 1) := by decide +kernel
theorem dX8_weighSaying_85 : decode cX8_weighSaying 85 = .ok (.getfield 29, 3) := by decide +kernel
theorem dX8_weighSaying_88 : decode cX8_weighSaying 88 = .ok (.getfield 126, 3) := by decide +kernel
theorem dX8_weighSaying_91 : decode cX8_weighSaying 91 = .ok (.iload_n 1, 1) := by decide +kernel
theorem dX8_weighSaying_92 : decode cX8_weighSaying 92 = .ok (.iaload, 1) := by decide +kernel
theorem dX8_weighSaying_93 : decode cX8_weighSaying 93 = .ok (.invokevirtual 260, 3) := by decide +kernel
theorem dX8_weighSaying_96 : decode cX8_weighSaying 96 = .ok (.iinc 1 1, 3) := by decide +kernel
theorem dX8_weighSaying_99 : decode cX8_weighSaying 99 = .ok (.goto (-58), 3) := by decide +kernel
theorem dX8_weighSaying_102 : decode cX8_weighSaying 102 = .ok (.aload_n 0, 1) := by decide +kernel
theorem dX8_weighSaying_103 : decode cX8_weighSaying 103 = .ok (.getfield 51, 3) := by decide +kernel
theorem dX8_weighSaying_106 : decode cX8_weighSaying 106 = .ok (.invokevirtual 266, 3) := by decide +kernel
theorem dX8_weighSaying_109 : decode cX8_weighSaying 109 = .ok (.return_, 1) := by decide +kernel
theorem dX8_refusalToCompare_0 : decode cX8_refusalToCompare 0 = .ok (.aload_n 0, 1) := by decide +kernel
theorem dX8_refusalToCompare_1 : decode cX8_refusalToCompare 1 = .ok (.getfield 29, 3) := by decide +kernel
theorem dX8_refusalToCompare_4 : decode cX8_refusalToCompare 4 = .ok (.getfield 111, 3) := by decide +kernel
theorem dX8_refusalToCompare_7 : decode cX8_refusalToCompare 7 = .ok (.iload_n 1, 1) := by decide +kernel
theorem dX8_refusalToCompare_8 : decode cX8_refusalToCompare 8 = .ok (.iaload, 1) := by decide +kernel
theorem dX8_refusalToCompare_9 : decode cX8_refusalToCompare 9 = .ok (.ifCond .ne 6, 3) := by decide +kernel
theorem dX8_refusalToCompare_12 : decode cX8_refusalToCompare 12 = .ok (.bipush (-2), 2) := by decide +kernel
theorem dX8_refusalToCompare_14 : decode cX8_refusalToCompare 14 = .ok (.ireturn, 1) := by decide +kernel
theorem dX8_refusalToCompare_15 : decode cX8_refusalToCompare 15 = .ok (.aload_n 0, 1) := by decide +kernel
theorem dX8_refusalToCompare_16 : decode cX8_refusalToCompare 16 = .ok (.getfield 19, 3) := by decide +kernel
theorem dX8_refusalToCompare_19 : decode cX8_refusalToCompare 19 = .ok (.getfield 101, 3) := by decide +kernel
theorem dX8_refusalToCompare_22 : decode cX8_refusalToCompare 22 = .ok (.iconst 2, 1) := by decide +kernel
theorem dX8_refusalToCompare_23 : decode cX8_refusalToCompare 23 = .ok (.if_icmp .ge 8, 3) := by decide +kernel
theorem dX8_refusalToCompare_26 : decode cX8_refusalToCompare 26 = .ok (.bipush (-4), 2) := by decide +kernel
theorem dX8_refusalToCompare_28 : decode cX8_refusalToCompare 28 = .ok (.goto 4, 3) := by decide +kernel
theorem dX8_refusalToCompare_31 : decode cX8_refusalToCompare 31 = .ok (.iconst 0, 1) := by decide +kernel
theorem dX8_refusalToCompare_32 : decode cX8_refusalToCompare 32 = .ok (.ireturn, 1) := by decide +kernel
theorem dX8_farBy_0 : decode cX8_farBy 0 = .ok (.aload_n 0, 1) := by decide +kernel
theorem dX8_farBy_1 : decode cX8_farBy 1 = .ok (.getfield 29, 3) := by decide +kernel
theorem dX8_farBy_4 : decode cX8_farBy 4 = .ok (.getfield 114, 3) := by decide +kernel
theorem dX8_farBy_7 : decode cX8_farBy 7 = .ok (.iload_n 1, 1) := by decide +kernel
theorem dX8_farBy_8 : decode cX8_farBy 8 = .ok (.aaload, 1) := by decide +kernel
theorem dX8_farBy_9 : decode cX8_farBy 9 = .ok (.astore_n 3, 1) := by decide +kernel
theorem dX8_farBy_10 : decode cX8_farBy 10 = .ok (.aload_n 0, 1) := by decide +kernel
theorem dX8_farBy_11 : decode cX8_farBy 11 = .ok (.getfield 51, 3) := by decide +kernel
theorem dX8_farBy_14 : decode cX8_farBy 14 = .ok (.aload_n 0, 1) := by decide +kernel
theorem dX8_farBy_15 : decode cX8_farBy 15 = .ok (.getfield 19, 3) := by decide +kernel
theorem dX8_farBy_18 : decode cX8_farBy 18 = .ok (.aload_n 0, 1) := by decide +kernel
theorem dX8_farBy_19 : decode cX8_farBy 19 = .ok (.getfield 29, 3) := by decide +kernel
theorem dX8_farBy_22 : decode cX8_farBy 22 = .ok (.getfield 111, 3) := by decide +kernel
theorem dX8_farBy_25 : decode cX8_farBy 25 = .ok (.iload_n 1, 1) := by decide +kernel
theorem dX8_farBy_26 : decode cX8_farBy 26 = .ok (.iaload, 1) := by decide +kernel
theorem dX8_farBy_27 : decode cX8_farBy 27 = .ok (.invokevirtual 244, 3) := by decide +kernel
theorem dX8_farBy_30 : decode cX8_farBy 30 = .ok (.iconst 0, 1) := by decide +kernel
theorem dX8_farBy_31 : decode cX8_farBy 31 = .ok (.istore 4, 2) := by decide +kernel
theorem dX8_farBy_33 : decode cX8_farBy 33 = .ok (.iload 4, 2) := by decide +kernel
theorem dX8_farBy_35 : decode cX8_farBy 35 = .ok (.iconst 5, 1) := by decide +kernel
theorem dX8_farBy_36 : decode cX8_farBy 36 = .ok (.if_icmp .ge 35, 3) := by decide +kernel
theorem dX8_farBy_39 : decode cX8_farBy 39 = .ok (.iload_n 2, 1) := by decide +kernel
theorem dX8_farBy_40 : decode cX8_farBy 40 = .ok (.iload 4, 2) := by decide +kernel
theorem dX8_farBy_42 : decode cX8_farBy 42 = .ok (.ishr, 1) := by decide +kernel
theorem dX8_farBy_43 : decode cX8_farBy 43 = .ok (.iconst 1, 1) := by decide +kernel
theorem dX8_farBy_44 : decode cX8_farBy 44 = .ok (.iand, 1) := by decide +kernel
theorem dX8_farBy_45 : decode cX8_farBy 45 = .ok (.iconst 1, 1) := by decide +kernel
theorem dX8_farBy_46 : decode cX8_farBy 46 = .ok (.if_icmp .ne 19, 3) := by decide +kernel
theorem dX8_farBy_49 : decode cX8_farBy 49 = .ok (.aload_n 0, 1) := by decide +kernel
theorem dX8_farBy_50 : decode cX8_farBy 50 = .ok (.aload_n 3, 1) := by decide +kernel
theorem dX8_farBy_51 : decode cX8_farBy 51 = .ok (.iload 4, 2) := by decide +kernel
theorem dX8_farBy_53 : decode cX8_farBy 53 = .ok (.aload_n 0, 1) := by decide +kernel
theorem dX8_farBy_54 : decode cX8_farBy 54 = .ok (.getfield 29, 3) := by decide +kernel
theorem dX8_farBy_57 : decode cX8_farBy 57 = .ok (.getfield 111, 3) := by decide +kernel
theorem dX8_farBy_60 : decode cX8_farBy 60 = .ok (.iload_n 1, 1) := by decide +kernel
theorem dX8_farBy_61 : decode cX8_farBy 61 = .ok (.iaload, 1) := by decide +kernel
theorem dX8_farBy_62 : decode cX8_farBy 62 = .ok (.invokevirtual 269, 3) := by decide +kernel
theorem dX8_farBy_65 : decode cX8_farBy 65 = .ok (.iinc 4 1, 3) := by decide +kernel
theorem dX8_farBy_68 : decode cX8_farBy 68 = .ok (.goto (-35), 3) := by decide +kernel
theorem dX8_farBy_71 : decode cX8_farBy 71 = .ok (.aload_n 0, 1) := by decide +kernel
theorem dX8_farBy_72 : decode cX8_farBy 72 = .ok (.getfield 51, 3) := by decide +kernel
theorem dX8_farBy_75 : decode cX8_farBy 75 = .ok (.invokevirtual 266, 3) := by decide +kernel
theorem dX8_farBy_78 : decode cX8_farBy 78 = .ok (.aload_n 0, 1) := by decide +kernel
theorem dX8_farBy_79 : decode cX8_farBy 79 = .ok (.getfield 51, 3) := by decide +kernel
theorem dX8_farBy_82 : decode cX8_farBy 82 = .ok (.aload_n 3, 1) := by decide +kernel
theorem dX8_farBy_83 : decode cX8_farBy 83 = .ok (.invokevirtual 273, 3) := by decide +kernel
theorem dX8_farBy_86 : decode cX8_farBy 86 = .ok (.ireturn, 1) := by decide +kernel
theorem dX8_wantAsSaid_0 : decode cX8_wantAsSaid 0 = .ok (.aload_n 0, 1) := by decide +kernel
theorem dX8_wantAsSaid_1 : decode cX8_wantAsSaid 1 = .ok (.getfield 42, 3) := by decide +kernel
theorem dX8_wantAsSaid_4 : decode cX8_wantAsSaid 4 = .ok (.iload_n 2, 1) := by decide +kernel
theorem dX8_wantAsSaid_5 : decode cX8_wantAsSaid 5 = .ok (.iload_n 3, 1) := by decide +kernel
theorem dX8_wantAsSaid_6 : decode cX8_wantAsSaid 6 = .ok (.invokevirtual 117, 3) := by decide +kernel
theorem dX8_wantAsSaid_9 : decode cX8_wantAsSaid 9 = .ok (.iconst 0, 1) := by decide +kernel
theorem dX8_wantAsSaid_10 : decode cX8_wantAsSaid 10 = .ok (.istore 4, 2) := by decide +kernel
theorem dX8_wantAsSaid_12 : decode cX8_wantAsSaid 12 = .ok (.iload 4, 2) := by decide +kernel
theorem dX8_wantAsSaid_14 : decode cX8_wantAsSaid 14 = .ok (.aload_n 0, 1) := by decide +kernel
theorem dX8_wantAsSaid_15 : decode cX8_wantAsSaid 15 = .ok (.getfield 42, 3) := by decide +kernel
theorem dX8_wantAsSaid_18 : decode cX8_wantAsSaid 18 = .ok (.getfield 121, 3) := by decide +kernel
theorem dX8_wantAsSaid_21 : decode cX8_wantAsSaid 21 = .ok (.if_icmp .ge 61, 3) := by decide +kernel
theorem dX8_wantAsSaid_24 : decode cX8_wantAsSaid 24 = .ok (.aload_n 0, 1) := by decide +kernel
theorem dX8_wantAsSaid_25 : decode cX8_wantAsSaid 25 = .ok (.getfield 51, 3) := by decide +kernel
theorem dX8_wantAsSaid_28 : decode cX8_wantAsSaid 28 = .ok (.getfield 248, 3) := by decide +kernel
theorem dX8_wantAsSaid_31 : decode cX8_wantAsSaid 31 = .ok (.aload_n 0, 1) := by decide +kernel
theorem dX8_wantAsSaid_32 : decode cX8_wantAsSaid 32 = .ok (.getfield 42, 3) := by decide +kernel
theorem dX8_wantAsSaid_35 : decode cX8_wantAsSaid 35 = .ok (.iload 4, 2) := by decide +kernel
theorem dX8_wantAsSaid_37 : decode cX8_wantAsSaid 37 = .ok (.invokevirtual 252, 3) := by decide +kernel
theorem dX8_wantAsSaid_40 : decode cX8_wantAsSaid 40 = .ok (.aload_n 0, 1) := by decide +kernel
theorem dX8_wantAsSaid_41 : decode cX8_wantAsSaid 41 = .ok (.getfield 42, 3) := by decide +kernel
theorem dX8_wantAsSaid_44 : decode cX8_wantAsSaid 44 = .ok (.getfield 255, 3) := by decide +kernel
theorem dX8_wantAsSaid_47 : decode cX8_wantAsSaid 47 = .ok (.iload 4, 2) := by decide +kernel
theorem dX8_wantAsSaid_49 : decode cX8_wantAsSaid 49 = .ok (.iaload, 1) := by decide +kernel
theorem dX8_wantAsSaid_50 : decode cX8_wantAsSaid 50 = .ok (.aload_n 0, 1) := by decide +kernel
theorem dX8_wantAsSaid_51 : decode cX8_wantAsSaid 51 = .ok (.getfield 42, 3) := by decide +kernel
theorem dX8_wantAsSaid_54 : decode cX8_wantAsSaid 54 = .ok (.iload 4, 2) := by decide +kernel
theorem dX8_wantAsSaid_56 : decode cX8_wantAsSaid 56 = .ok (.invokevirtual 257, 3) := by decide +kernel
theorem dX8_wantAsSaid_59 : decode cX8_wantAsSaid 59 = .ok (.aload_n 0, 1) := by decide +kernel
theorem dX8_wantAsSaid_60 : decode cX8_wantAsSaid 60 = .ok (.getfield 42, 3) := by decide +kernel
theorem dX8_wantAsSaid_63 : decode cX8_wantAsSaid 63 = .ok (.aload_n 0, 1) := by decide +kernel
theorem dX8_wantAsSaid_64 : decode cX8_wantAsSaid 64 = .ok (.getfield 19, 3) := by decide +kernel
theorem dX8_wantAsSaid_67 : decode cX8_wantAsSaid 67 = .ok (.aload_n 1, 1) := by decide +kernel
theorem dX8_wantAsSaid_68 : decode cX8_wantAsSaid 68 = .ok (.iload 4, 2) := by decide +kernel
theorem dX8_wantAsSaid_70 : decode cX8_wantAsSaid 70 = .ok (.invokevirtual 122, 3) := by decide +kernel
theorem dX8_wantAsSaid_73 : decode cX8_wantAsSaid 73 = .ok (.invokevirtual 260, 3) := by decide +kernel
theorem dX8_wantAsSaid_76 : decode cX8_wantAsSaid 76 = .ok (.iinc 4 1, 3) := by decide +kernel
theorem dX8_wantAsSaid_79 : decode cX8_wantAsSaid 79 = .ok (.goto (-67), 3) := by decide +kernel
theorem dX8_wantAsSaid_82 : decode cX8_wantAsSaid 82 = .ok (.return_, 1) := by decide +kernel
