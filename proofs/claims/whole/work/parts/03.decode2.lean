theorem dX8_farthestWays_0 : decode cX8_farthestWays 0 = .ok (.iconst 0, 1) := by decide +kernel
theorem dX8_farthestWays_1 : decode cX8_farthestWays 1 = .ok (.istore_n 3, 1) := by decide +kernel
theorem dX8_farthestWays_2 : decode cX8_farthestWays 2 = .ok (.iconst 0, 1) := by decide +kernel
theorem dX8_farthestWays_3 : decode cX8_farthestWays 3 = .ok (.istore 4, 2) := by decide +kernel
theorem dX8_farthestWays_5 : decode cX8_farthestWays 5 = .ok (.bipush 31, 2) := by decide +kernel
theorem dX8_farthestWays_7 : decode cX8_farthestWays 7 = .ok (.istore 5, 2) := by decide +kernel
theorem dX8_farthestWays_9 : decode cX8_farthestWays 9 = .ok (.iload 5, 2) := by decide +kernel
theorem dX8_farthestWays_11 : decode cX8_farthestWays 11 = .ok (.ifCond .lt 94, 3) := by decide +kernel
theorem dX8_farthestWays_14 : decode cX8_farthestWays 14 = .ok (.aload_n 0, 1) := by decide +kernel
theorem dX8_farthestWays_15 : decode cX8_farthestWays 15 = .ok (.getfield 73, 3) := by decide +kernel
theorem dX8_farthestWays_18 : decode cX8_farthestWays 18 = .ok (.iload 5, 2) := by decide +kernel
theorem dX8_farthestWays_20 : decode cX8_farthestWays 20 = .ok (.ldc_w 277, 3) := by decide +kernel
theorem dX8_farthestWays_23 : decode cX8_farthestWays 23 = .ok (.iastore, 1) := by decide +kernel
theorem dX8_farthestWays_24 : decode cX8_farthestWays 24 = .ok (.aload_n 0, 1) := by decide +kernel
theorem dX8_farthestWays_25 : decode cX8_farthestWays 25 = .ok (.getfield 19, 3) := by decide +kernel
theorem dX8_farthestWays_28 : decode cX8_farthestWays 28 = .ok (.iload 5, 2) := by decide +kernel
theorem dX8_farthestWays_30 : decode cX8_farthestWays 30 = .ok (.invokevirtual 278, 3) := by decide +kernel
theorem dX8_farthestWays_33 : decode cX8_farthestWays 33 = .ok (.iload_n 2, 1) := by decide +kernel
theorem dX8_farthestWays_34 : decode cX8_farthestWays 34 = .ok (.if_icmp .le 6, 3) := by decide +kernel
theorem dX8_farthestWays_37 : decode cX8_farthestWays 37 = .ok (.goto 62, 3) := by decide +kernel
theorem dX8_farthestWays_40 : decode cX8_farthestWays 40 = .ok (.iload 5, 2) := by decide +kernel
theorem dX8_farthestWays_42 : decode cX8_farthestWays 42 = .ok (.ifCond .ne 7, 3) := by decide +kernel
theorem dX8_farthestWays_45 : decode cX8_farthestWays 45 = .ok (.iconst 0, 1) := by decide +kernel
theorem dX8_farthestWays_46 : decode cX8_farthestWays 46 = .ok (.goto 9, 3) := by decide +kernel
theorem dX8_farthestWays_49 : decode cX8_farthestWays 49 = .ok (.aload_n 0, 1) := by decide +kernel
theorem dX8_farthestWays_50 : decode cX8_farthestWays 50 = .ok (.iload 5, 2) := by decide +kernel
theorem dX8_farthestWays_52 : decode cX8_farthestWays 52 = .ok (.invokevirtual 281, 3) := by decide +kernel
theorem dX8_farthestWays_55 : decode cX8_farthestWays 55 = .ok (.istore 6, 2) := by decide +kernel
theorem dX8_farthestWays_57 : decode cX8_farthestWays 57 = .ok (.iload 6, 2) := by decide +kernel
theorem dX8_farthestWays_59 : decode cX8_farthestWays 59 = .ok (.iload_n 3, 1) := by decide +kernel
theorem dX8_farthestWays_60 : decode cX8_farthestWays 60 = .ok (.if_icmp .lt 17, 3) := by decide +kernel
theorem dX8_farthestWays_63 : decode cX8_farthestWays 63 = .ok (.iload 6, 2) := by decide +kernel
theorem dX8_farthestWays_65 : decode cX8_farthestWays 65 = .ok (.ifCond .le 12, 3) := by decide +kernel
theorem dX8_farthestWays_68 : decode cX8_farthestWays 68 = .ok (.aload_n 0, 1) := by decide +kernel
theorem dX8_farthestWays_69 : decode cX8_farthestWays 69 = .ok (.iload_n 1, 1) := by decide +kernel
theorem dX8_farthestWays_70 : decode cX8_farthestWays 70 = .ok (.iload 5, 2) := by decide +kernel
theorem dX8_farthestWays_72 : decode cX8_farthestWays 72 = .ok (.invokevirtual 158, 3) := by decide +kernel
theorem dX8_farthestWays_75 : decode cX8_farthestWays 75 = .ok (.istore 6, 2) := by decide +kernel
theorem dX8_farthestWays_77 : decode cX8_farthestWays 77 = .ok (.aload_n 0, 1) := by decide +kernel
theorem dX8_farthestWays_78 : decode cX8_farthestWays 78 = .ok (.getfield 73, 3) := by decide +kernel
theorem dX8_farthestWays_81 : decode cX8_farthestWays 81 = .ok (.iload 5, 2) := by decide +kernel
theorem dX8_farthestWays_83 : decode cX8_farthestWays 83 = .ok (.iload 6, 2) := by decide +kernel
theorem dX8_farthestWays_85 : decode cX8_farthestWays 85 = .ok (.iastore, 1) := by decide +kernel
theorem dX8_farthestWays_86 : decode cX8_farthestWays 86 = .ok (.iload 6, 2) := by decide +kernel
theorem dX8_farthestWays_88 : decode cX8_farthestWays 88 = .ok (.iload_n 3, 1) := by decide +kernel
theorem dX8_farthestWays_89 : decode cX8_farthestWays 89 = .ok (.if_icmp .lt 10, 3) := by decide +kernel
theorem dX8_farthestWays_92 : decode cX8_farthestWays 92 = .ok (.iload 6, 2) := by decide +kernel
theorem dX8_farthestWays_94 : decode cX8_farthestWays 94 = .ok (.istore_n 3, 1) := by decide +kernel
theorem dX8_farthestWays_95 : decode cX8_farthestWays 95 = .ok (.iload 5, 2) := by decide +kernel
theorem dX8_farthestWays_97 : decode cX8_farthestWays 97 = .ok (.istore 4, 2) := by decide +kernel
theorem dX8_farthestWays_99 : decode cX8_farthestWays 99 = .ok (.iinc 5 (-1), 3) := by decide +kernel
theorem dX8_farthestWays_102 : decode cX8_farthestWays 102 = .ok (.goto (-93), 3) := by decide +kernel
theorem dX8_farthestWays_105 : decode cX8_farthestWays 105 = .ok (.iload 4, 2) := by decide +kernel
theorem dX8_farthestWays_107 : decode cX8_farthestWays 107 = .ok (.ireturn, 1) := by decide +kernel
theorem dX8_ceilingOf_0 : decode cX8_ceilingOf 0 = .ok (.ldc_w 277, 3) := by decide +kernel
theorem dX8_ceilingOf_3 : decode cX8_ceilingOf 3 = .ok (.istore_n 2, 1) := by decide +kernel
theorem dX8_ceilingOf_4 : decode cX8_ceilingOf 4 = .ok (.iconst 0, 1) := by decide +kernel
theorem dX8_ceilingOf_5 : decode cX8_ceilingOf 5 = .ok (.istore_n 3, 1) := by decide +kernel
theorem dX8_ceilingOf_6 : decode cX8_ceilingOf 6 = .ok (.iload_n 3, 1) := by decide +kernel
theorem dX8_ceilingOf_7 : decode cX8_ceilingOf 7 = .ok (.iconst 5, 1) := by decide +kernel
theorem dX8_ceilingOf_8 : decode cX8_ceilingOf 8 = .ok (.if_icmp .ge 32, 3) := by decide +kernel
theorem dX8_ceilingOf_11 : decode cX8_ceilingOf 11 = .ok (.iload_n 1, 1) := by decide +kernel
theorem dX8_ceilingOf_12 : decode cX8_ceilingOf 12 = .ok (.iload_n 3, 1) := by decide +kernel
theorem dX8_ceilingOf_13 : decode cX8_ceilingOf 13 = .ok (.ishr, 1) := by decide +kernel
theorem dX8_ceilingOf_14 : decode cX8_ceilingOf 14 = .ok (.iconst 1, 1) := by decide +kernel
theorem dX8_ceilingOf_15 : decode cX8_ceilingOf 15 = .ok (.iand, 1) := by decide +kernel
theorem dX8_ceilingOf_16 : decode cX8_ceilingOf 16 = .ok (.ifCond .ne 18, 3) := by decide +kernel
theorem dX8_ceilingOf_19 : decode cX8_ceilingOf 19 = .ok (.iload_n 2, 1) := by decide +kernel
theorem dX8_ceilingOf_20 : decode cX8_ceilingOf 20 = .ok (.aload_n 0, 1) := by decide +kernel
theorem dX8_ceilingOf_21 : decode cX8_ceilingOf 21 = .ok (.getfield 73, 3) := by decide +kernel
theorem dX8_ceilingOf_24 : decode cX8_ceilingOf 24 = .ok (.iload_n 1, 1) := by decide +kernel
theorem dX8_ceilingOf_25 : decode cX8_ceilingOf 25 = .ok (.iconst 1, 1) := by decide +kernel
theorem dX8_ceilingOf_26 : decode cX8_ceilingOf 26 = .ok (.iload_n 3, 1) := by decide +kernel
theorem dX8_ceilingOf_27 : decode cX8_ceilingOf 27 = .ok (.ishl, 1) := by decide +kernel
theorem dX8_ceilingOf_28 : decode cX8_ceilingOf 28 = .ok (.ior, 1) := by decide +kernel
theorem dX8_ceilingOf_29 : decode cX8_ceilingOf 29 = .ok (.iaload, 1) := by decide +kernel
theorem dX8_ceilingOf_30 : decode cX8_ceilingOf 30 = .ok (.invokestatic 284, 3) := by decide +kernel
theorem dX8_ceilingOf_33 : decode cX8_ceilingOf 33 = .ok (.istore_n 2, 1) := by decide +kernel
theorem dX8_ceilingOf_34 : decode cX8_ceilingOf 34 = .ok (.iinc 3 1, 3) := by decide +kernel
theorem dX8_ceilingOf_37 : decode cX8_ceilingOf 37 = .ok (.goto (-31), 3) := by decide +kernel
theorem dX8_ceilingOf_40 : decode cX8_ceilingOf 40 = .ok (.iload_n 2, 1) := by decide +kernel
theorem dX8_ceilingOf_41 : decode cX8_ceilingOf 41 = .ok (.ireturn, 1) := by decide +kernel
theorem dX8_isSuch_0 : decode cX8_isSuch 0 = .ok (.iload_n 2, 1) := by decide +kernel
theorem dX8_isSuch_1 : decode cX8_isSuch 1 = .ok (.aload_n 0, 1) := by decide +kernel
theorem dX8_isSuch_2 : decode cX8_isSuch 2 = .ok (.getfield 29, 3) := by decide +kernel
theorem dX8_isSuch_5 : decode cX8_isSuch 5 = .ok (.getfield 111, 3) := by decide +kernel
theorem dX8_isSuch_8 : decode cX8_isSuch 8 = .ok (.iload_n 1, 1) := by decide +kernel
theorem dX8_isSuch_9 : decode cX8_isSuch 9 = .ok (.iaload, 1) := by decide +kernel
theorem dX8_isSuch_10 : decode cX8_isSuch 10 = .ok (.invokestatic 104, 3) := by decide +kernel
theorem dX8_isSuch_13 : decode cX8_isSuch 13 = .ok (.ifCond .eq 22, 3) := by decide +kernel
theorem dX8_isSuch_16 : decode cX8_isSuch 16 = .ok (.aload_n 0, 1) := by decide +kernel
theorem dX8_isSuch_17 : decode cX8_isSuch 17 = .ok (.getfield 29, 3) := by decide +kernel
theorem dX8_isSuch_20 : decode cX8_isSuch 20 = .ok (.getfield 114, 3) := by decide +kernel
theorem dX8_isSuch_23 : decode cX8_isSuch 23 = .ok (.iload_n 1, 1) := by decide +kernel
theorem dX8_isSuch_24 : decode cX8_isSuch 24 = .ok (.aaload, 1) := by decide +kernel
theorem dX8_isSuch_25 : decode cX8_isSuch 25 = .ok (.iload_n 2, 1) := by decide +kernel
theorem dX8_isSuch_26 : decode cX8_isSuch 26 = .ok (.iaload, 1) := by decide +kernel
theorem dX8_isSuch_27 : decode cX8_isSuch 27 = .ok (.iload_n 3, 1) := by decide +kernel
theorem dX8_isSuch_28 : decode cX8_isSuch 28 = .ok (.if_icmp .eq 7, 3) := by decide +kernel
theorem dX8_isSuch_31 : decode cX8_isSuch 31 = .ok (.iconst 1, 1) := by decide +kernel
theorem dX8_isSuch_32 : decode cX8_isSuch 32 = .ok (.goto 4, 3) := by decide +kernel
theorem dX8_isSuch_35 : decode cX8_isSuch 35 = .ok (.iconst 0, 1) := by decide +kernel
theorem dX8_isSuch_36 : decode cX8_isSuch 36 = .ok (.ireturn, 1) := by decide +kernel
theorem dX8_waysThatShow_0 : decode cX8_waysThatShow 0 = .ok (.aload_n 0, 1) := by decide +kernel
theorem dX8_waysThatShow_1 : decode cX8_waysThatShow 1 = .ok (.getfield 29, 3) := by decide +kernel
theorem dX8_waysThatShow_4 : decode cX8_waysThatShow 4 = .ok (.getfield 114, 3) := by decide +kernel
theorem dX8_waysThatShow_7 : decode cX8_waysThatShow 7 = .ok (.iload_n 1, 1) := by decide +kernel
theorem dX8_waysThatShow_8 : decode cX8_waysThatShow 8 = .ok (.aaload, 1) := by decide +kernel
theorem dX8_waysThatShow_9 : decode cX8_waysThatShow 9 = .ok (.iconst 0, 1) := by decide +kernel
theorem dX8_waysThatShow_10 : decode cX8_waysThatShow 10 = .ok (.aload_n 0, 1) := by decide +kernel
theorem dX8_waysThatShow_11 : decode cX8_waysThatShow 11 = .ok (.getfield 69, 3) := by decide +kernel
theorem dX8_waysThatShow_14 : decode cX8_waysThatShow 14 = .ok (.iconst 0, 1) := by decide +kernel
theorem dX8_waysThatShow_15 : decode cX8_waysThatShow 15 = .ok (.bipush 8, 2) := by decide +kernel
theorem dX8_waysThatShow_17 : decode cX8_waysThatShow 17 = .ok (.invokestatic 287, 3) := by decide +kernel
theorem dX8_waysThatShow_20 : decode cX8_waysThatShow 20 = .ok (.aload_n 0, 1) := by decide +kernel
theorem dX8_waysThatShow_21 : decode cX8_waysThatShow 21 = .ok (.getfield 69, 3) := by decide +kernel
theorem dX8_waysThatShow_24 : decode cX8_waysThatShow 24 = .ok (.iload_n 2, 1) := by decide +kernel
theorem dX8_waysThatShow_25 : decode cX8_waysThatShow 25 = .ok (.iload_n 3, 1) := by decide +kernel
theorem dX8_waysThatShow_26 : decode cX8_waysThatShow 26 = .ok (.iastore, 1) := by decide +kernel
theorem dX8_waysThatShow_27 : decode cX8_waysThatShow 27 = .ok (.iconst 0, 1) := by decide +kernel
theorem dX8_waysThatShow_28 : decode cX8_waysThatShow 28 = .ok (.istore 4, 2) := by decide +kernel
theorem dX8_waysThatShow_30 : decode cX8_waysThatShow 30 = .ok (.iconst 0, 1) := by decide +kernel
theorem dX8_waysThatShow_31 : decode cX8_waysThatShow 31 = .ok (.istore 5, 2) := by decide +kernel
theorem dX8_waysThatShow_33 : decode cX8_waysThatShow 33 = .ok (.iload 5, 2) := by decide +kernel
theorem dX8_waysThatShow_35 : decode cX8_waysThatShow 35 = .ok (.iconst 5, 1) := by decide +kernel
theorem dX8_waysThatShow_36 : decode cX8_waysThatShow 36 = .ok (.if_icmp .ge 63, 3) := by decide +kernel
theorem dX8_waysThatShow_39 : decode cX8_waysThatShow 39 = .ok (.aload_n 0, 1) := by decide +kernel
theorem dX8_waysThatShow_40 : decode cX8_waysThatShow 40 = .ok (.getfield 42, 3) := by decide +kernel
theorem dX8_waysThatShow_43 : decode cX8_waysThatShow 43 = .ok (.iload 5, 2) := by decide +kernel
theorem dX8_waysThatShow_45 : decode cX8_waysThatShow 45 = .ok (.aload_n 0, 1) := by decide +kernel
theorem dX8_waysThatShow_46 : decode cX8_waysThatShow 46 = .ok (.getfield 29, 3) := by decide +kernel
theorem dX8_waysThatShow_49 : decode cX8_waysThatShow 49 = .ok (.getfield 111, 3) := by decide +kernel
theorem dX8_waysThatShow_52 : decode cX8_waysThatShow 52 = .ok (.iload_n 1, 1) := by decide +kernel
theorem dX8_waysThatShow_53 : decode cX8_waysThatShow 53 = .ok (.iaload, 1) := by decide +kernel
theorem dX8_waysThatShow_54 : decode cX8_waysThatShow 54 = .ok (.invokevirtual 117, 3) := by decide +kernel
theorem dX8_waysThatShow_57 : decode cX8_waysThatShow 57 = .ok (.aload_n 0, 1) := by decide +kernel
theorem dX8_waysThatShow_58 : decode cX8_waysThatShow 58 = .ok (.getfield 42, 3) := by decide +kernel
theorem dX8_waysThatShow_61 : decode cX8_waysThatShow 61 = .ok (.aload_n 0, 1) := by decide +kernel
theorem dX8_waysThatShow_62 : decode cX8_waysThatShow 62 = .ok (.getfield 19, 3) := by decide +kernel
theorem dX8_waysThatShow_65 : decode cX8_waysThatShow 65 = .ok (.aload_n 0, 1) := by decide +kernel
theorem dX8_waysThatShow_66 : decode cX8_waysThatShow 66 = .ok (.getfield 29, 3) := by decide +kernel
theorem dX8_waysThatShow_69 : decode cX8_waysThatShow 69 = .ok (.getfield 114, 3) := by decide +kernel
theorem dX8_waysThatShow_72 : decode cX8_waysThatShow 72 = .ok (.iload_n 1, 1) := by decide +kernel
theorem dX8_waysThatShow_73 : decode cX8_waysThatShow 73 = .ok (.aaload, 1) := by decide +kernel
theorem dX8_waysThatShow_74 : decode cX8_waysThatShow 74 = .ok (.aload_n 0, 1) := by decide +kernel
theorem dX8_waysThatShow_75 : decode cX8_waysThatShow 75 = .ok (.getfield 69, 3) := by decide +kernel
theorem dX8_waysThatShow_78 : decode cX8_waysThatShow 78 = .ok (.invokevirtual 293, 3) := by decide +kernel
theorem dX8_waysThatShow_81 : decode cX8_waysThatShow 81 = .ok (.ifCond .eq 12, 3) := by decide +kernel
theorem dX8_waysThatShow_84 : decode cX8_waysThatShow 84 = .ok (.iload 4, 2) := by decide +kernel
theorem dX8_waysThatShow_86 : decode cX8_waysThatShow 86 = .ok (.iconst 1, 1) := by decide +kernel
theorem dX8_waysThatShow_87 : decode cX8_waysThatShow 87 = .ok (.iload 5, 2) := by decide +kernel
theorem dX8_waysThatShow_89 : decode cX8_waysThatShow 89 = .ok (.ishl, 1) := by decide +kernel
theorem dX8_waysThatShow_90 : decode cX8_waysThatShow 90 = .ok (.ior, 1) := by decide +kernel
theorem dX8_waysThatShow_91 : decode cX8_waysThatShow 91 = .ok (.istore 4, 2) := by decide +kernel
theorem dX8_waysThatShow_93 : decode cX8_waysThatShow 93 = .ok (.iinc 5 1, 3) := by decide +kernel
theorem dX8_waysThatShow_96 : decode cX8_waysThatShow 96 = .ok (.goto (-63), 3) := by decide +kernel
theorem dX8_waysThatShow_99 : decode cX8_waysThatShow 99 = .ok (.iload 4, 2) := by decide +kernel
theorem dX8_waysThatShow_101 : decode cX8_waysThatShow 101 = .ok (.ireturn, 1) := by decide +kernel
theorem dX8_isSuchSlip_0 : decode cX8_isSuchSlip 0 = .ok (.aload_n 0, 1) := by decide +kernel
theorem dX8_isSuchSlip_1 : decode cX8_isSuchSlip 1 = .ok (.aload_n 0, 1) := by decide +kernel
theorem dX8_isSuchSlip_2 : decode cX8_isSuchSlip 2 = .ok (.getfield 58, 3) := by decide +kernel
theorem dX8_isSuchSlip_5 : decode cX8_isSuchSlip 5 = .ok (.getfield 297, 3) := by decide +kernel
theorem dX8_isSuchSlip_8 : decode cX8_isSuchSlip 8 = .ok (.iload_n 1, 1) := by decide +kernel
theorem dX8_isSuchSlip_9 : decode cX8_isSuchSlip 9 = .ok (.iaload, 1) := by decide +kernel
theorem dX8_isSuchSlip_10 : decode cX8_isSuchSlip 10 = .ok (.aload_n 0, 1) := by decide +kernel
theorem dX8_isSuchSlip_11 : decode cX8_isSuchSlip 11 = .ok (.getfield 58, 3) := by decide +kernel
theorem dX8_isSuchSlip_14 : decode cX8_isSuchSlip 14 = .ok (.getfield 300, 3) := by decide +kernel
theorem dX8_isSuchSlip_17 : decode cX8_isSuchSlip 17 = .ok (.iload_n 1, 1) := by decide +kernel
theorem dX8_isSuchSlip_18 : decode cX8_isSuchSlip 18 = .ok (.iaload, 1) := by decide +kernel
theorem dX8_isSuchSlip_19 : decode cX8_isSuchSlip 19 = .ok (.aload_n 0, 1) := by decide +kernel
theorem dX8_isSuchSlip_20 : decode cX8_isSuchSlip 20 = .ok (.getfield 58, 3) := by decide +kernel
theorem dX8_isSuchSlip_23 : decode cX8_isSuchSlip 23 = .ok (.getfield 301, 3) := by decide +kernel
theorem dX8_isSuchSlip_26 : decode cX8_isSuchSlip 26 = .ok (.iload_n 1, 1) := by decide +kernel
theorem dX8_isSuchSlip_27 : decode cX8_isSuchSlip 27 = .ok (.iaload, 1) := by decide +kernel
theorem dX8_isSuchSlip_28 : decode cX8_isSuchSlip 28 = .ok (.invokevirtual 170, 3) := by decide +kernel
theorem dX8_isSuchSlip_31 : decode cX8_isSuchSlip 31 = .ok (.ireturn, 1) := by decide +kernel
theorem dX8_waysThatShowSlip_0 : decode cX8_waysThatShowSlip 0 = .ok (.aload_n 0, 1) := by decide +kernel
theorem dX8_waysThatShowSlip_1 : decode cX8_waysThatShowSlip 1 = .ok (.aload_n 0, 1) := by decide +kernel
theorem dX8_waysThatShowSlip_2 : decode cX8_waysThatShowSlip 2 = .ok (.getfield 58, 3) := by decide +kernel
theorem dX8_waysThatShowSlip_5 : decode cX8_waysThatShowSlip 5 = .ok (.getfield 297, 3) := by decide +kernel
theorem dX8_waysThatShowSlip_8 : decode cX8_waysThatShowSlip 8 = .ok (.iload_n 1, 1) := by decide +kernel
theorem dX8_waysThatShowSlip_9 : decode cX8_waysThatShowSlip 9 = .ok (.iaload, 1) := by decide +kernel
theorem dX8_waysThatShowSlip_10 : decode cX8_waysThatShowSlip 10 = .ok (.aload_n 0, 1) := by decide +kernel
theorem dX8_waysThatShowSlip_11 : decode cX8_waysThatShowSlip 11 = .ok (.getfield 58, 3) := by decide +kernel
theorem dX8_waysThatShowSlip_14 : decode cX8_waysThatShowSlip 14 = .ok (.getfield 300, 3) := by decide +kernel
theorem dX8_waysThatShowSlip_17 : decode cX8_waysThatShowSlip 17 = .ok (.iload_n 1, 1) := by decide +kernel
theorem dX8_waysThatShowSlip_18 : decode cX8_waysThatShowSlip 18 = .ok (.iaload, 1) := by decide +kernel
theorem dX8_waysThatShowSlip_19 : decode cX8_waysThatShowSlip 19 = .ok (.aload_n 0, 1) := by decide +kernel
theorem dX8_waysThatShowSlip_20 : decode cX8_waysThatShowSlip 20 = .ok (.getfield 58, 3) := by decide +kernel
theorem dX8_waysThatShowSlip_23 : decode cX8_waysThatShowSlip 23 = .ok (.getfield 301, 3) := by decide +kernel
theorem dX8_waysThatShowSlip_26 : decode cX8_waysThatShowSlip 26 = .ok (.iload_n 1, 1) := by decide +kernel
theorem dX8_waysThatShowSlip_27 : decode cX8_waysThatShowSlip 27 = .ok (.iaload, 1) := by decide +kernel
theorem dX8_waysThatShowSlip_28 : decode cX8_waysThatShowSlip 28 = .ok (.invokevirtual 174, 3) := by decide +kernel
theorem dX8_waysThatShowSlip_31 : decode cX8_waysThatShowSlip 31 = .ok (.ireturn, 1) := by decide +kernel
theorem dX8_suchSlips_0 : decode cX8_suchSlips 0 = .ok (.iconst 0, 1) := by decide +kernel
theorem dX8_suchSlips_1 : decode cX8_suchSlips 1 = .ok (.istore_n 1, 1) := by decide +kernel
theorem dX8_suchSlips_2 : decode cX8_suchSlips 2 = .ok (.iconst 0, 1) := by decide +kernel
theorem dX8_suchSlips_3 : decode cX8_suchSlips 3 = .ok (.istore_n 2, 1) := by decide +kernel
theorem dX8_suchSlips_4 : decode cX8_suchSlips 4 = .ok (.iload_n 2, 1) := by decide +kernel
theorem dX8_suchSlips_5 : decode cX8_suchSlips 5 = .ok (.aload_n 0, 1) := by decide +kernel
theorem dX8_suchSlips_6 : decode cX8_suchSlips 6 = .ok (.getfield 58, 3) := by decide +kernel
theorem dX8_suchSlips_9 : decode cX8_suchSlips 9 = .ok (.getfield 94, 3) := by decide +kernel
theorem dX8_suchSlips_12 : decode cX8_suchSlips 12 = .ok (.if_icmp .ge 25, 3) := by decide +kernel
theorem dX8_suchSlips_15 : decode cX8_suchSlips 15 = .ok (.iload_n 1, 1) := by decide +kernel
theorem dX8_suchSlips_16 : decode cX8_suchSlips 16 = .ok (.aload_n 0, 1) := by decide +kernel
theorem dX8_suchSlips_17 : decode cX8_suchSlips 17 = .ok (.iload_n 2, 1) := by decide +kernel
theorem dX8_suchSlips_18 : decode cX8_suchSlips 18 = .ok (.invokevirtual 303, 3) := by decide +kernel
theorem dX8_suchSlips_21 : decode cX8_suchSlips 21 = .ok (.ifCond .eq 7, 3) := by decide +kernel
theorem dX8_suchSlips_24 : decode cX8_suchSlips 24 = .ok (.iconst 1, 1) := by decide +kernel
theorem dX8_suchSlips_25 : decode cX8_suchSlips 25 = .ok (.goto 4, 3) := by decide +kernel
theorem dX8_suchSlips_28 : decode cX8_suchSlips 28 = .ok (.iconst 0, 1) := by decide +kernel
theorem dX8_suchSlips_29 : decode cX8_suchSlips 29 = .ok (.iadd, 1) := by decide +kernel
theorem dX8_suchSlips_30 : decode cX8_suchSlips 30 = .ok (.istore_n 1, 1) := by decide +kernel
theorem dX8_suchSlips_31 : decode cX8_suchSlips 31 = .ok (.iinc 2 1, 3) := by decide +kernel
theorem dX8_suchSlips_34 : decode cX8_suchSlips 34 = .ok (.goto (-30), 3) := by decide +kernel
theorem dX8_suchSlips_37 : decode cX8_suchSlips 37 = .ok (.iload_n 1, 1) := by decide +kernel
theorem dX8_suchSlips_38 : decode cX8_suchSlips 38 = .ok (.ireturn, 1) := by decide +kernel
theorem dX8_hiddenSlips_0 : decode cX8_hiddenSlips 0 = .ok (.iconst 0, 1) := by decide +kernel
theorem dX8_hiddenSlips_1 : decode cX8_hiddenSlips 1 = .ok (.istore_n 1, 1) := by decide +kernel
theorem dX8_hiddenSlips_2 : decode cX8_hiddenSlips 2 = .ok (.iconst 0, 1) := by decide +kernel
theorem dX8_hiddenSlips_3 : decode cX8_hiddenSlips 3 = .ok (.istore_n 2, 1) := by decide +kernel
theorem dX8_hiddenSlips_4 : decode cX8_hiddenSlips 4 = .ok (.iload_n 2, 1) := by decide +kernel
theorem dX8_hiddenSlips_5 : decode cX8_hiddenSlips 5 = .ok (.aload_n 0, 1) := by decide +kernel
theorem dX8_hiddenSlips_6 : decode cX8_hiddenSlips 6 = .ok (.getfield 58, 3) := by decide +kernel
theorem dX8_hiddenSlips_9 : decode cX8_hiddenSlips 9 = .ok (.getfield 94, 3) := by decide +kernel
theorem dX8_hiddenSlips_12 : decode cX8_hiddenSlips 12 = .ok (.if_icmp .ge 48, 3) := by decide +kernel
theorem dX8_hiddenSlips_15 : decode cX8_hiddenSlips 15 = .ok (.aload_n 0, 1) := by decide +kernel
theorem dX8_hiddenSlips_16 : decode cX8_hiddenSlips 16 = .ok (.iload_n 2, 1) := by decide +kernel
theorem dX8_hiddenSlips_17 : decode cX8_hiddenSlips 17 = .ok (.invokevirtual 303, 3) := by decide +kernel
theorem dX8_hiddenSlips_20 : decode cX8_hiddenSlips 20 = .ok (.ifCond .eq 34, 3) := by decide +kernel
theorem dX8_hiddenSlips_23 : decode cX8_hiddenSlips 23 = .ok (.aload_n 0, 1) := by decide +kernel
theorem dX8_hiddenSlips_24 : decode cX8_hiddenSlips 24 = .ok (.iload_n 2, 1) := by decide +kernel
theorem dX8_hiddenSlips_25 : decode cX8_hiddenSlips 25 = .ok (.invokevirtual 306, 3) := by decide +kernel
theorem dX8_hiddenSlips_28 : decode cX8_hiddenSlips 28 = .ok (.istore_n 3, 1) := by decide +kernel
theorem dX8_hiddenSlips_29 : decode cX8_hiddenSlips 29 = .ok (.iload_n 1, 1) := by decide +kernel
theorem dX8_hiddenSlips_30 : decode cX8_hiddenSlips 30 = .ok (.iload_n 3, 1) := by decide +kernel
theorem dX8_hiddenSlips_31 : decode cX8_hiddenSlips 31 = .ok (.iconst 0, 1) := by decide +kernel
theorem dX8_hiddenSlips_32 : decode cX8_hiddenSlips 32 = .ok (.ishr, 1) := by decide +kernel
theorem dX8_hiddenSlips_33 : decode cX8_hiddenSlips 33 = .ok (.iconst 1, 1) := by decide +kernel
theorem dX8_hiddenSlips_34 : decode cX8_hiddenSlips 34 = .ok (.iand, 1) := by decide +kernel
theorem dX8_hiddenSlips_35 : decode cX8_hiddenSlips 35 = .ok (.ifCond .ne 16, 3) := by decide +kernel
theorem dX8_hiddenSlips_38 : decode cX8_hiddenSlips 38 = .ok (.iload_n 3, 1) := by decide +kernel
theorem dX8_hiddenSlips_39 : decode cX8_hiddenSlips 39 = .ok (.iconst 1, 1) := by decide +kernel
theorem dX8_hiddenSlips_40 : decode cX8_hiddenSlips 40 = .ok (.ishr, 1) := by decide +kernel
theorem dX8_hiddenSlips_41 : decode cX8_hiddenSlips 41 = .ok (.iconst 1, 1) := by decide +kernel
theorem dX8_hiddenSlips_42 : decode cX8_hiddenSlips 42 = .ok (.iand, 1) := by decide +kernel
theorem dX8_hiddenSlips_43 : decode cX8_hiddenSlips 43 = .ok (.iconst 1, 1) := by decide +kernel
theorem dX8_hiddenSlips_44 : decode cX8_hiddenSlips 44 = .ok (.if_icmp .ne 7, 3) := by decide +kernel
theorem dX8_hiddenSlips_47 : decode cX8_hiddenSlips 47 = .ok (.iconst 1, 1) := by decide +kernel
theorem dX8_hiddenSlips_48 : decode cX8_hiddenSlips 48 = .ok (.goto 4, 3) := by decide +kernel
theorem dX8_hiddenSlips_51 : decode cX8_hiddenSlips 51 = .ok (.iconst 0, 1) := by decide +kernel
theorem dX8_hiddenSlips_52 : decode cX8_hiddenSlips 52 = .ok (.iadd, 1) := by decide +kernel
theorem dX8_hiddenSlips_53 : decode cX8_hiddenSlips 53 = .ok (.istore_n 1, 1) := by decide +kernel
theorem dX8_hiddenSlips_54 : decode cX8_hiddenSlips 54 = .ok (.iinc 2 1, 3) := by decide +kernel
theorem dX8_hiddenSlips_57 : decode cX8_hiddenSlips 57 = .ok (.goto (-53), 3) := by decide +kernel
theorem dX8_hiddenSlips_60 : decode cX8_hiddenSlips 60 = .ok (.iload_n 1, 1) := by decide +kernel
theorem dX8_hiddenSlips_61 : decode cX8_hiddenSlips 61 = .ok (.ireturn, 1) := by decide +kernel
theorem dX8_listedSlips_0 : decode cX8_listedSlips 0 = .ok (.iconst 0, 1) := by decide +kernel
theorem dX8_listedSlips_1 : decode cX8_listedSlips 1 = .ok (.istore_n 1, 1) := by decide +kernel
theorem dX8_listedSlips_2 : decode cX8_listedSlips 2 = .ok (.iconst 0, 1) := by decide +kernel
theorem dX8_listedSlips_3 : decode cX8_listedSlips 3 = .ok (.istore_n 2, 1) := by decide +kernel
theorem dX8_listedSlips_4 : decode cX8_listedSlips 4 = .ok (.iload_n 2, 1) := by decide +kernel
theorem dX8_listedSlips_5 : decode cX8_listedSlips 5 = .ok (.aload_n 0, 1) := by decide +kernel
theorem dX8_listedSlips_6 : decode cX8_listedSlips 6 = .ok (.getfield 58, 3) := by decide +kernel
theorem dX8_listedSlips_9 : decode cX8_listedSlips 9 = .ok (.getfield 94, 3) := by decide +kernel
theorem dX8_listedSlips_12 : decode cX8_listedSlips 12 = .ok (.if_icmp .ge 73, 3) := by decide +kernel
theorem dX8_listedSlips_15 : decode cX8_listedSlips 15 = .ok (.aload_n 0, 1) := by decide +kernel
theorem dX8_listedSlips_16 : decode cX8_listedSlips 16 = .ok (.iload_n 2, 1) := by decide +kernel
theorem dX8_listedSlips_17 : decode cX8_listedSlips 17 = .ok (.invokevirtual 303, 3) := by decide +kernel
theorem dX8_listedSlips_20 : decode cX8_listedSlips 20 = .ok (.ifCond .eq 59, 3) := by decide +kernel
theorem dX8_listedSlips_23 : decode cX8_listedSlips 23 = .ok (.aload_n 0, 1) := by decide +kernel
theorem dX8_listedSlips_24 : decode cX8_listedSlips 24 = .ok (.getfield 29, 3) := by decide +kernel
theorem dX8_listedSlips_27 : decode cX8_listedSlips 27 = .ok (.getfield 114, 3) := by decide +kernel
theorem dX8_listedSlips_30 : decode cX8_listedSlips 30 = .ok (.aload_n 0, 1) := by decide +kernel
theorem dX8_listedSlips_31 : decode cX8_listedSlips 31 = .ok (.getfield 58, 3) := by decide +kernel
theorem dX8_listedSlips_34 : decode cX8_listedSlips 34 = .ok (.getfield 297, 3) := by decide +kernel
theorem dX8_listedSlips_37 : decode cX8_listedSlips 37 = .ok (.iload_n 2, 1) := by decide +kernel
theorem dX8_listedSlips_38 : decode cX8_listedSlips 38 = .ok (.iaload, 1) := by decide +kernel
theorem dX8_listedSlips_39 : decode cX8_listedSlips 39 = .ok (.aaload, 1) := by decide +kernel
theorem dX8_listedSlips_40 : decode cX8_listedSlips 40 = .ok (.aload_n 0, 1) := by decide +kernel
theorem dX8_listedSlips_41 : decode cX8_listedSlips 41 = .ok (.getfield 58, 3) := by decide +kernel
theorem dX8_listedSlips_44 : decode cX8_listedSlips 44 = .ok (.getfield 300, 3) := by decide +kernel
theorem dX8_listedSlips_47 : decode cX8_listedSlips 47 = .ok (.iload_n 2, 1) := by decide +kernel
theorem dX8_listedSlips_48 : decode cX8_listedSlips 48 = .ok (.iaload, 1) := by decide +kernel
theorem dX8_listedSlips_49 : decode cX8_listedSlips 49 = .ok (.iaload, 1) := by decide +kernel
theorem dX8_listedSlips_50 : decode cX8_listedSlips 50 = .ok (.istore_n 3, 1) := by decide +kernel
theorem dX8_listedSlips_51 : decode cX8_listedSlips 51 = .ok (.iload_n 1, 1) := by decide +kernel
theorem dX8_listedSlips_52 : decode cX8_listedSlips 52 = .ok (.aload_n 0, 1) := by decide +kernel
theorem dX8_listedSlips_53 : decode cX8_listedSlips 53 = .ok (.getfield 19, 3) := by decide +kernel
theorem dX8_listedSlips_56 : decode cX8_listedSlips 56 = .ok (.iload_n 3, 1) := by decide +kernel
theorem dX8_listedSlips_57 : decode cX8_listedSlips 57 = .ok (.aload_n 0, 1) := by decide +kernel
theorem dX8_listedSlips_58 : decode cX8_listedSlips 58 = .ok (.getfield 58, 3) := by decide +kernel
theorem dX8_listedSlips_61 : decode cX8_listedSlips 61 = .ok (.getfield 301, 3) := by decide +kernel
theorem dX8_listedSlips_64 : decode cX8_listedSlips 64 = .ok (.iload_n 2, 1) := by decide +kernel
theorem dX8_listedSlips_65 : decode cX8_listedSlips 65 = .ok (.iaload, 1) := by decide +kernel
theorem dX8_listedSlips_66 : decode cX8_listedSlips 66 = .ok (.invokevirtual 309, 3) := by decide +kernel
theorem dX8_listedSlips_69 : decode cX8_listedSlips 69 = .ok (.ifCond .eq 7, 3) := by decide +kernel
theorem dX8_listedSlips_72 : decode cX8_listedSlips 72 = .ok (.iconst 0, 1) := by decide +kernel
theorem dX8_listedSlips_73 : decode cX8_listedSlips 73 = .ok (.goto 4, 3) := by decide +kernel
theorem dX8_listedSlips_76 : decode cX8_listedSlips 76 = .ok (.iconst 1, 1) := by decide +kernel
theorem dX8_listedSlips_77 : decode cX8_listedSlips 77 = .ok (.iadd, 1) := by decide +kernel
theorem dX8_listedSlips_78 : decode cX8_listedSlips 78 = .ok (.istore_n 1, 1) := by decide +kernel
theorem dX8_listedSlips_79 : decode cX8_listedSlips 79 = .ok (.iinc 2 1, 3) := by decide +kernel
theorem dX8_listedSlips_82 : decode cX8_listedSlips 82 = .ok (.goto (-78), 3) := by decide +kernel
theorem dX8_listedSlips_85 : decode cX8_listedSlips 85 = .ok (.iload_n 1, 1) := by decide +kernel
theorem dX8_listedSlips_86 : decode cX8_listedSlips 86 = .ok (.ireturn, 1) := by decide +kernel
theorem dX8_fewestWays_0 : decode cX8_fewestWays 0 = .ok (.iconst 0, 1) := by decide +kernel
theorem dX8_fewestWays_1 : decode cX8_fewestWays 1 = .ok (.istore_n 1, 1) := by decide +kernel
theorem dX8_fewestWays_2 : decode cX8_fewestWays 2 = .ok (.iload_n 1, 1) := by decide +kernel
theorem dX8_fewestWays_3 : decode cX8_fewestWays 3 = .ok (.aload_n 0, 1) := by decide +kernel
theorem dX8_fewestWays_4 : decode cX8_fewestWays 4 = .ok (.getfield 58, 3) := by decide +kernel
theorem dX8_fewestWays_7 : decode cX8_fewestWays 7 = .ok (.getfield 94, 3) := by decide +kernel
theorem dX8_fewestWays_10 : decode cX8_fewestWays 10 = .ok (.if_icmp .ge 35, 3) := by decide +kernel
theorem dX8_fewestWays_13 : decode cX8_fewestWays 13 = .ok (.aload_n 0, 1) := by decide +kernel
theorem dX8_fewestWays_14 : decode cX8_fewestWays 14 = .ok (.getfield 58, 3) := by decide +kernel
theorem dX8_fewestWays_17 : decode cX8_fewestWays 17 = .ok (.getfield 312, 3) := by decide +kernel
theorem dX8_fewestWays_20 : decode cX8_fewestWays 20 = .ok (.iload_n 1, 1) := by decide +kernel
theorem dX8_fewestWays_21 : decode cX8_fewestWays 21 = .ok (.aload_n 0, 1) := by decide +kernel
theorem dX8_fewestWays_22 : decode cX8_fewestWays 22 = .ok (.iload_n 1, 1) := by decide +kernel
theorem dX8_fewestWays_23 : decode cX8_fewestWays 23 = .ok (.invokevirtual 303, 3) := by decide +kernel
theorem dX8_fewestWays_26 : decode cX8_fewestWays 26 = .ok (.ifCond .eq 11, 3) := by decide +kernel
theorem dX8_fewestWays_29 : decode cX8_fewestWays 29 = .ok (.aload_n 0, 1) := by decide +kernel
theorem dX8_fewestWays_30 : decode cX8_fewestWays 30 = .ok (.iload_n 1, 1) := by decide +kernel
theorem dX8_fewestWays_31 : decode cX8_fewestWays 31 = .ok (.invokevirtual 306, 3) := by decide +kernel
theorem dX8_fewestWays_34 : decode cX8_fewestWays 34 = .ok (.goto 4, 3) := by decide +kernel
theorem dX8_fewestWays_37 : decode cX8_fewestWays 37 = .ok (.iconst 0, 1) := by decide +kernel
theorem dX8_fewestWays_38 : decode cX8_fewestWays 38 = .ok (.iastore, 1) := by decide +kernel
theorem dX8_fewestWays_39 : decode cX8_fewestWays 39 = .ok (.iinc 1 1, 3) := by decide +kernel
theorem dX8_fewestWays_42 : decode cX8_fewestWays 42 = .ok (.goto (-40), 3) := by decide +kernel
theorem dX8_fewestWays_45 : decode cX8_fewestWays 45 = .ok (.bipush 31, 2) := by decide +kernel
theorem dX8_fewestWays_47 : decode cX8_fewestWays 47 = .ok (.istore_n 1, 1) := by decide +kernel
theorem dX8_fewestWays_48 : decode cX8_fewestWays 48 = .ok (.bipush 31, 2) := by decide +kernel
theorem dX8_fewestWays_50 : decode cX8_fewestWays 50 = .ok (.istore_n 2, 1) := by decide +kernel
theorem dX8_fewestWays_51 : decode cX8_fewestWays 51 = .ok (.iload_n 2, 1) := by decide +kernel
theorem dX8_fewestWays_52 : decode cX8_fewestWays 52 = .ok (.ifCond .lt 33, 3) := by decide +kernel
theorem dX8_fewestWays_55 : decode cX8_fewestWays 55 = .ok (.aload_n 0, 1) := by decide +kernel
theorem dX8_fewestWays_56 : decode cX8_fewestWays 56 = .ok (.getfield 58, 3) := by decide +kernel
theorem dX8_fewestWays_59 : decode cX8_fewestWays 59 = .ok (.iload_n 2, 1) := by decide +kernel
theorem dX8_fewestWays_60 : decode cX8_fewestWays 60 = .ok (.invokevirtual 315, 3) := by decide +kernel
theorem dX8_fewestWays_63 : decode cX8_fewestWays 63 = .ok (.ifCond .eq 16, 3) := by decide +kernel
theorem dX8_fewestWays_66 : decode cX8_fewestWays 66 = .ok (.iload_n 2, 1) := by decide +kernel
theorem dX8_fewestWays_67 : decode cX8_fewestWays 67 = .ok (.invokestatic 318, 3) := by decide +kernel
theorem dX8_fewestWays_70 : decode cX8_fewestWays 70 = .ok (.iload_n 1, 1) := by decide +kernel
theorem dX8_fewestWays_71 : decode cX8_fewestWays 71 = .ok (.invokestatic 318, 3) := by decide +kernel
theorem dX8_fewestWays_74 : decode cX8_fewestWays 74 = .ok (.if_icmp .gt 5, 3) := by decide +kernel
theorem dX8_fewestWays_77 : decode cX8_fewestWays 77 = .ok (.iload_n 2, 1) := by decide +kernel
theorem dX8_fewestWays_78 : decode cX8_fewestWays 78 = .ok (.istore_n 1, 1) := by decide +kernel
theorem dX8_fewestWays_79 : decode cX8_fewestWays 79 = .ok (.iinc 2 (-1), 3) := by decide +kernel
theorem dX8_fewestWays_82 : decode cX8_fewestWays 82 = .ok (.goto (-31), 3) := by decide +kernel
theorem dX8_fewestWays_85 : decode cX8_fewestWays 85 = .ok (.iload_n 1, 1) := by decide +kernel
theorem dX8_fewestWays_86 : decode cX8_fewestWays 86 = .ok (.ireturn, 1) := by decide +kernel
theorem dX9_init_0 : decode cX9_init 0 = .ok (.aload_n 0, 1) := by decide +kernel
theorem dX9_init_1 : decode cX9_init 1 = .ok (.invokespecial 1, 3) := by decide +kernel
theorem dX9_init_4 : decode cX9_init 4 = .ok (.aload_n 0, 1) := by decide +kernel
theorem dX9_init_5 : decode cX9_init 5 = .ok (.sipush 300, 3) := by decide +kernel
theorem dX9_init_8 : decode cX9_init 8 = .ok (.newarray .int, 2) := by decide +kernel
theorem dX9_init_10 : decode cX9_init 10 = .ok (.putfield 7, 3) := by decide +kernel
theorem dX9_init_13 : decode cX9_init 13 = .ok (.aload_n 0, 1) := by decide +kernel
theorem dX9_init_14 : decode cX9_init 14 = .ok (.iconst 2, 1) := by decide +kernel
theorem dX9_init_15 : decode cX9_init 15 = .ok (.newarray .int, 2) := by decide +kernel
theorem dX9_init_17 : decode cX9_init 17 = .ok (.putfield 13, 3) := by decide +kernel
theorem dX9_init_20 : decode cX9_init 20 = .ok (.aload_n 0, 1) := by decide +kernel
theorem dX9_init_21 : decode cX9_init 21 = .ok (.bipush 96, 2) := by decide +kernel
theorem dX9_init_23 : decode cX9_init 23 = .ok (.newarray .int, 2) := by decide +kernel
theorem dX9_init_25 : decode cX9_init 25 = .ok (.putfield 16, 3) := by decide +kernel
theorem dX9_init_28 : decode cX9_init 28 = .ok (.aload_n 0, 1) := by decide +kernel
theorem dX9_init_29 : decode cX9_init 29 = .ok (.sipush 128, 3) := by decide +kernel
theorem dX9_init_32 : decode cX9_init 32 = .ok (.newarray .int, 2) := by decide +kernel
theorem dX9_init_34 : decode cX9_init 34 = .ok (.putfield 19, 3) := by decide +kernel
theorem dX9_init_37 : decode cX9_init 37 = .ok (.aload_n 0, 1) := by decide +kernel
theorem dX9_init_38 : decode cX9_init 38 = .ok (.bipush 10, 2) := by decide +kernel
theorem dX9_init_40 : decode cX9_init 40 = .ok (.newarray .int, 2) := by decide +kernel
theorem dX9_init_42 : decode cX9_init 42 = .ok (.putfield 22, 3) := by decide +kernel
theorem dX9_init_45 : decode cX9_init 45 = .ok (.aload_n 0, 1) := by decide +kernel
theorem dX9_init_46 : decode cX9_init 46 = .ok (.bipush 18, 2) := by decide +kernel
theorem dX9_init_48 : decode cX9_init 48 = .ok (.newarray .int, 2) := by decide +kernel
theorem dX9_init_50 : decode cX9_init 50 = .ok (.putfield 25, 3) := by decide +kernel
theorem dX9_init_53 : decode cX9_init 53 = .ok (.aload_n 0, 1) := by decide +kernel
theorem dX9_init_54 : decode cX9_init 54 = .ok (.sipush 144, 3) := by decide +kernel
theorem dX9_init_57 : decode cX9_init 57 = .ok (.newarray .int, 2) := by decide +kernel
theorem dX9_init_59 : decode cX9_init 59 = .ok (.putfield 28, 3) := by decide +kernel
theorem dX9_init_62 : decode cX9_init 62 = .ok (.aload_n 0, 1) := by decide +kernel
theorem dX9_init_63 : decode cX9_init 63 = .ok (.iconst 3, 1) := by decide +kernel
theorem dX9_init_64 : decode cX9_init 64 = .ok (.newarray .int, 2) := by decide +kernel
theorem dX9_init_66 : decode cX9_init 66 = .ok (.putfield 31, 3) := by decide +kernel
theorem dX9_init_69 : decode cX9_init 69 = .ok (.aload_n 0, 1) := by decide +kernel
theorem dX9_init_70 : decode cX9_init 70 = .ok (.iconst 3, 1) := by decide +kernel
theorem dX9_init_71 : decode cX9_init 71 = .ok (.newarray .int, 2) := by decide +kernel
theorem dX9_init_73 : decode cX9_init 73 = .ok (.putfield 34, 3) := by decide +kernel
theorem dX9_init_76 : decode cX9_init 76 = .ok (.aload_n 0, 1) := by decide +kernel
theorem dX9_init_77 : decode cX9_init 77 = .ok (.iconst 3, 1) := by decide +kernel
theorem dX9_init_78 : decode cX9_init 78 = .ok (.newarray .int, 2) := by decide +kernel
theorem dX9_init_80 : decode cX9_init 80 = .ok (.putfield 37, 3) := by decide +kernel
theorem dX9_init_83 : decode cX9_init 83 = .ok (.aload_n 0, 1) := by decide +kernel
theorem dX9_init_84 : decode cX9_init 84 = .ok (.sipush 252, 3) := by decide +kernel
theorem dX9_init_87 : decode cX9_init 87 = .ok (.newarray .int, 2) := by decide +kernel
theorem dX9_init_89 : decode cX9_init 89 = .ok (.putfield 40, 3) := by decide +kernel
theorem dX9_init_92 : decode cX9_init 92 = .ok (.aload_n 0, 1) := by decide +kernel
theorem dX9_init_93 : decode cX9_init 93 = .ok (.bipush 60, 2) := by decide +kernel
theorem dX9_init_95 : decode cX9_init 95 = .ok (.newarray .int, 2) := by decide +kernel
theorem dX9_init_97 : decode cX9_init 97 = .ok (.putfield 43, 3) := by decide +kernel
theorem dX9_init_100 : decode cX9_init 100 = .ok (.aload_n 0, 1) := by decide +kernel
theorem dX9_init_101 : decode cX9_init 101 = .ok (.bipush 64, 2) := by decide +kernel
theorem dX9_init_103 : decode cX9_init 103 = .ok (.newarray .int, 2) := by decide +kernel
theorem dX9_init_105 : decode cX9_init 105 = .ok (.putfield 46, 3) := by decide +kernel
theorem dX9_init_108 : decode cX9_init 108 = .ok (.aload_n 0, 1) := by decide +kernel
theorem dX9_init_109 : decode cX9_init 109 = .ok (.iconst 4, 1) := by decide +kernel
theorem dX9_init_110 : decode cX9_init 110 = .ok (.newarray .int, 2) := by decide +kernel
theorem dX9_init_112 : decode cX9_init 112 = .ok (.putfield 49, 3) := by decide +kernel
theorem dX9_init_115 : decode cX9_init 115 = .ok (.aload_n 0, 1) := by decide +kernel
theorem dX9_init_116 : decode cX9_init 116 = .ok (.sipush 168, 3) := by decide +kernel
theorem dX9_init_119 : decode cX9_init 119 = .ok (.newarray .int, 2) := by decide +kernel
theorem dX9_init_121 : decode cX9_init 121 = .ok (.putfield 52, 3) := by decide +kernel
theorem dX9_init_124 : decode cX9_init 124 = .ok (.aload_n 0, 1) := by decide +kernel
theorem dX9_init_125 : decode cX9_init 125 = .ok (.sipush 168, 3) := by decide +kernel
theorem dX9_init_128 : decode cX9_init 128 = .ok (.newarray .int, 2) := by decide +kernel
theorem dX9_init_130 : decode cX9_init 130 = .ok (.putfield 55, 3) := by decide +kernel
theorem dX9_init_133 : decode cX9_init 133 = .ok (.aload_n 0, 1) := by decide +kernel
theorem dX9_init_134 : decode cX9_init 134 = .ok (.sipush 168, 3) := by decide +kernel
theorem dX9_init_137 : decode cX9_init 137 = .ok (.newarray .int, 2) := by decide +kernel
theorem dX9_init_139 : decode cX9_init 139 = .ok (.putfield 58, 3) := by decide +kernel
theorem dX9_init_142 : decode cX9_init 142 = .ok (.aload_n 0, 1) := by decide +kernel
theorem dX9_init_143 : decode cX9_init 143 = .ok (.bipush 8, 2) := by decide +kernel
theorem dX9_init_145 : decode cX9_init 145 = .ok (.newarray .int, 2) := by decide +kernel
theorem dX9_init_147 : decode cX9_init 147 = .ok (.putfield 61, 3) := by decide +kernel
theorem dX9_init_150 : decode cX9_init 150 = .ok (.aload_n 0, 1) := by decide +kernel
theorem dX9_init_151 : decode cX9_init 151 = .ok (.sipush 168, 3) := by decide +kernel
theorem dX9_init_154 : decode cX9_init 154 = .ok (.newarray .int, 2) := by decide +kernel
theorem dX9_init_156 : decode cX9_init 156 = .ok (.putfield 64, 3) := by decide +kernel
theorem dX9_init_159 : decode cX9_init 159 = .ok (.aload_n 0, 1) := by decide +kernel
theorem dX9_init_160 : decode cX9_init 160 = .ok (.bipush 8, 2) := by decide +kernel
theorem dX9_init_162 : decode cX9_init 162 = .ok (.newarray .int, 2) := by decide +kernel
theorem dX9_init_164 : decode cX9_init 164 = .ok (.putfield 67, 3) := by decide +kernel
theorem dX9_init_167 : decode cX9_init 167 = .ok (.aload_n 0, 1) := by decide +kernel
theorem dX9_init_168 : decode cX9_init 168 = .ok (.sipush 168, 3) := by decide +kernel
theorem dX9_init_171 : decode cX9_init 171 = .ok (.newarray .int, 2) := by decide +kernel
theorem dX9_init_173 : decode cX9_init 173 = .ok (.putfield 70, 3) := by decide +kernel
theorem dX9_init_176 : decode cX9_init 176 = .ok (.aload_n 0, 1) := by decide +kernel
theorem dX9_init_177 : decode cX9_init 177 = .ok (.sipush 2304, 3) := by decide +kernel
theorem dX9_init_180 : decode cX9_init 180 = .ok (.newarray .int, 2) := by decide +kernel
theorem dX9_init_182 : decode cX9_init 182 = .ok (.putfield 73, 3) := by decide +kernel
theorem dX9_init_185 : decode cX9_init 185 = .ok (.aload_n 0, 1) := by decide +kernel
theorem dX9_init_186 : decode cX9_init 186 = .ok (.sipush 2304, 3) := by decide +kernel
theorem dX9_init_189 : decode cX9_init 189 = .ok (.newarray .long, 2) := by decide +kernel
theorem dX9_init_191 : decode cX9_init 191 = .ok (.putfield 76, 3) := by decide +kernel
theorem dX9_init_194 : decode cX9_init 194 = .ok (.aload_n 0, 1) := by decide +kernel
theorem dX9_init_195 : decode cX9_init 195 = .ok (.sipush 2304, 3) := by decide +kernel
theorem dX9_init_198 : decode cX9_init 198 = .ok (.newarray .long, 2) := by decide +kernel
theorem dX9_init_200 : decode cX9_init 200 = .ok (.putfield 80, 3) := by decide +kernel
theorem dX9_init_203 : decode cX9_init 203 = .ok (.aload_n 0, 1) := by decide +kernel
theorem dX9_init_204 : decode cX9_init 204 = .ok (.bipush 20, 2) := by decide +kernel
theorem dX9_init_206 : decode cX9_init 206 = .ok (.newarray .int, 2) := by decide +kernel
theorem dX9_init_208 : decode cX9_init 208 = .ok (.putfield 83, 3) := by decide +kernel
theorem dX9_init_211 : decode cX9_init 211 = .ok (.aload_n 0, 1) := by decide +kernel
theorem dX9_init_212 : decode cX9_init 212 = .ok (.iconst 0, 1) := by decide +kernel
theorem dX9_init_213 : decode cX9_init 213 = .ok (.invokevirtual 86, 3) := by decide +kernel
theorem dX9_init_216 : decode cX9_init 216 = .ok (.return_, 1) := by decide +kernel
theorem dX9_in_0 : decode cX9_in 0 = .ok (.lload_n 0, 1) := by decide +kernel
theorem dX9_in_1 : decode cX9_in 1 = .ok (.lload_n 2, 1) := by decide +kernel
theorem dX9_in_2 : decode cX9_in 2 = .ok (.lcmp, 1) := by decide +kernel
theorem dX9_in_3 : decode cX9_in 3 = .ok (.ifCond .lt 14, 3) := by decide +kernel
theorem dX9_in_6 : decode cX9_in 6 = .ok (.lload_n 0, 1) := by decide +kernel
theorem dX9_in_7 : decode cX9_in 7 = .ok (.lload 4, 2) := by decide +kernel
theorem dX9_in_9 : decode cX9_in 9 = .ok (.lcmp, 1) := by decide +kernel
theorem dX9_in_10 : decode cX9_in 10 = .ok (.ifCond .gt 7, 3) := by decide +kernel
theorem dX9_in_13 : decode cX9_in 13 = .ok (.iconst 1, 1) := by decide +kernel
theorem dX9_in_14 : decode cX9_in 14 = .ok (.goto 4, 3) := by decide +kernel
theorem dX9_in_17 : decode cX9_in 17 = .ok (.iconst 0, 1) := by decide +kernel
theorem dX9_in_18 : decode cX9_in 18 = .ok (.ireturn, 1) := by decide +kernel
theorem dX9_has_0 : decode cX9_has 0 = .ok (.iload_n 0, 1) := by decide +kernel
theorem dX9_has_1 : decode cX9_has 1 = .ok (.iload_n 1, 1) := by decide +kernel
theorem dX9_has_2 : decode cX9_has 2 = .ok (.ishr, 1) := by decide +kernel
theorem dX9_has_3 : decode cX9_has 3 = .ok (.iconst 1, 1) := by decide +kernel
theorem dX9_has_4 : decode cX9_has 4 = .ok (.iand, 1) := by decide +kernel
theorem dX9_has_5 : decode cX9_has 5 = .ok (.iconst 1, 1) := by decide +kernel
theorem dX9_has_6 : decode cX9_has 6 = .ok (.if_icmp .ne 7, 3) := by decide +kernel
theorem dX9_has_9 : decode cX9_has 9 = .ok (.iconst 1, 1) := by decide +kernel
theorem dX9_has_10 : decode cX9_has 10 = .ok (.goto 4, 3) := by decide +kernel
theorem dX9_has_13 : decode cX9_has 13 = .ok (.iconst 0, 1) := by decide +kernel
theorem dX9_has_14 : decode cX9_has 14 = .ok (.ireturn, 1) := by decide +kernel
theorem dX9_bits_0 : decode cX9_bits 0 = .ok (.iconst 0, 1) := by decide +kernel
theorem dX9_bits_1 : decode cX9_bits 1 = .ok (.istore_n 1, 1) := by decide +kernel
theorem dX9_bits_2 : decode cX9_bits 2 = .ok (.iload_n 0, 1) := by decide +kernel
theorem dX9_bits_3 : decode cX9_bits 3 = .ok (.istore_n 2, 1) := by decide +kernel
theorem dX9_bits_4 : decode cX9_bits 4 = .ok (.iload_n 2, 1) := by decide +kernel
theorem dX9_bits_5 : decode cX9_bits 5 = .ok (.ifCond .eq 15, 3) := by decide +kernel
theorem dX9_bits_8 : decode cX9_bits 8 = .ok (.iinc 1 1, 3) := by decide +kernel
theorem dX9_bits_11 : decode cX9_bits 11 = .ok (.iload_n 2, 1) := by decide +kernel
theorem dX9_bits_12 : decode cX9_bits 12 = .ok (.iload_n 2, 1) := by decide +kernel
theorem dX9_bits_13 : decode cX9_bits 13 = .ok (.iconst 1, 1) := by decide +kernel
theorem dX9_bits_14 : decode cX9_bits 14 = .ok (.isub, 1) := by decide +kernel
theorem dX9_bits_15 : decode cX9_bits 15 = .ok (.iand, 1) := by decide +kernel
theorem dX9_bits_16 : decode cX9_bits 16 = .ok (.istore_n 2, 1) := by decide +kernel
theorem dX9_bits_17 : decode cX9_bits 17 = .ok (.goto (-13), 3) := by decide +kernel
theorem dX9_bits_20 : decode cX9_bits 20 = .ok (.iload_n 1, 1) := by decide +kernel
theorem dX9_bits_21 : decode cX9_bits 21 = .ok (.ireturn, 1) := by decide +kernel
theorem dX9_noItems_0 : decode cX9_noItems 0 = .ok (.aload_n 0, 1) := by decide +kernel
theorem dX9_noItems_1 : decode cX9_noItems 1 = .ok (.getfield 13, 3) := by decide +kernel
theorem dX9_noItems_4 : decode cX9_noItems 4 = .ok (.iload_n 1, 1) := by decide +kernel
theorem dX9_noItems_5 : decode cX9_noItems 5 = .ok (.iconst 0, 1) := by decide +kernel
theorem dX9_noItems_6 : decode cX9_noItems 6 = .ok (.iastore, 1) := by decide +kernel
theorem dX9_noItems_7 : decode cX9_noItems 7 = .ok (.iconst 0, 1) := by decide +kernel
theorem dX9_noItems_8 : decode cX9_noItems 8 = .ok (.istore_n 2, 1) := by decide +kernel
theorem dX9_noItems_9 : decode cX9_noItems 9 = .ok (.iload_n 2, 1) := by decide +kernel
theorem dX9_noItems_10 : decode cX9_noItems 10 = .ok (.bipush 64, 2) := by decide +kernel
theorem dX9_noItems_12 : decode cX9_noItems 12 = .ok (.if_icmp .ge 21, 3) := by decide +kernel
theorem dX9_noItems_15 : decode cX9_noItems 15 = .ok (.aload_n 0, 1) := by decide +kernel
theorem dX9_noItems_16 : decode cX9_noItems 16 = .ok (.getfield 19, 3) := by decide +kernel
theorem dX9_noItems_19 : decode cX9_noItems 19 = .ok (.bipush 64, 2) := by decide +kernel
theorem dX9_noItems_21 : decode cX9_noItems 21 = .ok (.iload_n 1, 1) := by decide +kernel
theorem dX9_noItems_22 : decode cX9_noItems 22 = .ok (.imul, 1) := by decide +kernel
theorem dX9_noItems_23 : decode cX9_noItems 23 = .ok (.iload_n 2, 1) := by decide +kernel
theorem dX9_noItems_24 : decode cX9_noItems 24 = .ok (.iadd, 1) := by decide +kernel
theorem dX9_noItems_25 : decode cX9_noItems 25 = .ok (.iload_n 2, 1) := by decide +kernel
theorem dX9_noItems_26 : decode cX9_noItems 26 = .ok (.iastore, 1) := by decide +kernel
theorem dX9_noItems_27 : decode cX9_noItems 27 = .ok (.iinc 2 1, 3) := by decide +kernel
theorem dX9_noItems_30 : decode cX9_noItems 30 = .ok (.goto (-21), 3) := by decide +kernel
theorem dX9_noItems_33 : decode cX9_noItems 33 = .ok (.iconst 0, 1) := by decide +kernel
theorem dX9_noItems_34 : decode cX9_noItems 34 = .ok (.istore_n 2, 1) := by decide +kernel
theorem dX9_noItems_35 : decode cX9_noItems 35 = .ok (.iload_n 2, 1) := by decide +kernel
theorem dX9_noItems_36 : decode cX9_noItems 36 = .ok (.iconst 5, 1) := by decide +kernel
theorem dX9_noItems_37 : decode cX9_noItems 37 = .ok (.if_icmp .ge 20, 3) := by decide +kernel
theorem dX9_noItems_40 : decode cX9_noItems 40 = .ok (.aload_n 0, 1) := by decide +kernel
theorem dX9_noItems_41 : decode cX9_noItems 41 = .ok (.getfield 22, 3) := by decide +kernel
theorem dX9_noItems_44 : decode cX9_noItems 44 = .ok (.iconst 5, 1) := by decide +kernel
theorem dX9_noItems_45 : decode cX9_noItems 45 = .ok (.iload_n 1, 1) := by decide +kernel
theorem dX9_noItems_46 : decode cX9_noItems 46 = .ok (.imul, 1) := by decide +kernel
theorem dX9_noItems_47 : decode cX9_noItems 47 = .ok (.iload_n 2, 1) := by decide +kernel
theorem dX9_noItems_48 : decode cX9_noItems 48 = .ok (.iadd, 1) := by decide +kernel
theorem dX9_noItems_49 : decode cX9_noItems 49 = .ok (.iconst 1, 1) := by decide +kernel
theorem dX9_noItems_50 : decode cX9_noItems 50 = .ok (.iastore, 1) := by decide +kernel
theorem dX9_noItems_51 : decode cX9_noItems 51 = .ok (.iinc 2 1, 3) := by decide +kernel
theorem dX9_noItems_54 : decode cX9_noItems 54 = .ok (.goto (-19), 3) := by decide +kernel
theorem dX9_noItems_57 : decode cX9_noItems 57 = .ok (.return_, 1) := by decide +kernel
theorem dX9_write_0 : decode cX9_write 0 = .ok (.iload_n 1, 1) := by decide +kernel
theorem dX9_write_1 : decode cX9_write 1 = .ok (.i2l, 1) := by decide +kernel
theorem dX9_write_2 : decode cX9_write 2 = .ok (.lconst 1, 1) := by decide +kernel
theorem dX9_write_3 : decode cX9_write 3 = .ok (.ldc2_w 90, 3) := by decide +kernel
theorem dX9_write_6 : decode cX9_write 6 = .ok (.invokestatic 92, 3) := by decide +kernel
theorem dX9_write_9 : decode cX9_write 9 = .ok (.ifCond .ne 5, 3) := by decide +kernel
theorem dX9_write_12 : decode cX9_write 12 = .ok (.iconst (-1), 1) := by decide +kernel
theorem dX9_write_13 : decode cX9_write 13 = .ok (.ireturn, 1) := by decide +kernel
theorem dX9_write_14 : decode cX9_write 14 = .ok (.aload_n 0, 1) := by decide +kernel
theorem dX9_write_15 : decode cX9_write 15 = .ok (.getfield 96, 3) := by decide +kernel
theorem dX9_write_18 : decode cX9_write 18 = .ok (.iload_n 1, 1) := by decide +kernel
theorem dX9_write_19 : decode cX9_write 19 = .ok (.iadd, 1) := by decide +kernel
theorem dX9_write_20 : decode cX9_write 20 = .ok (.sipush 300, 3) := by decide +kernel
theorem dX9_write_23 : decode cX9_write 23 = .ok (.if_icmp .le 6, 3) := by decide +kernel
theorem dX9_write_26 : decode cX9_write 26 = .ok (.bipush (-3), 2) := by decide +kernel
theorem dX9_write_28 : decode cX9_write 28 = .ok (.ireturn, 1) := by decide +kernel
theorem dX9_write_29 : decode cX9_write 29 = .ok (.iload_n 1, 1) := by decide +kernel
theorem dX9_write_30 : decode cX9_write 30 = .ok (.iconst 1, 1) := by decide +kernel
theorem dX9_write_31 : decode cX9_write 31 = .ok (.isub, 1) := by decide +kernel
theorem dX9_write_32 : decode cX9_write 32 = .ok (.istore 4, 2) := by decide +kernel
theorem dX9_write_34 : decode cX9_write 34 = .ok (.iload 4, 2) := by decide +kernel
theorem dX9_write_36 : decode cX9_write 36 = .ok (.ifCond .lt 40, 3) := by decide +kernel
theorem dX9_write_39 : decode cX9_write 39 = .ok (.aload_n 0, 1) := by decide +kernel
theorem dX9_write_40 : decode cX9_write 40 = .ok (.getfield 7, 3) := by decide +kernel
theorem dX9_write_43 : decode cX9_write 43 = .ok (.aload_n 0, 1) := by decide +kernel
theorem dX9_write_44 : decode cX9_write 44 = .ok (.getfield 96, 3) := by decide +kernel
theorem dX9_write_47 : decode cX9_write 47 = .ok (.lload_n 2, 1) := by decide +kernel
theorem dX9_write_48 : decode cX9_write 48 = .ok (.bipush 8, 2) := by decide +kernel
theorem dX9_write_50 : decode cX9_write 50 = .ok (.iload 4, 2) := by decide +kernel
theorem dX9_write_52 : decode cX9_write 52 = .ok (.imul, 1) := by decide +kernel
theorem dX9_write_53 : decode cX9_write 53 = .ok (.lshr, 1) := by decide +kernel
theorem dX9_write_54 : decode cX9_write 54 = .ok (.ldc2_w 100, 3) := by decide +kernel
theorem dX9_write_57 : decode cX9_write 57 = .ok (.land, 1) := by decide +kernel
theorem dX9_write_58 : decode cX9_write 58 = .ok (.l2i, 1) := by decide +kernel
theorem dX9_write_59 : decode cX9_write 59 = .ok (.iastore, 1) := by decide +kernel
theorem dX9_write_60 : decode cX9_write 60 = .ok (.aload_n 0, 1) := by decide +kernel
theorem dX9_write_61 : decode cX9_write 61 = .ok (.dup, 1) := by decide +kernel
theorem dX9_write_62 : decode cX9_write 62 = .ok (.getfield 96, 3) := by decide +kernel
theorem dX9_write_65 : decode cX9_write 65 = .ok (.iconst 1, 1) := by decide +kernel
theorem dX9_write_66 : decode cX9_write 66 = .ok (.iadd, 1) := by decide +kernel
theorem dX9_write_67 : decode cX9_write 67 = .ok (.putfield 96, 3) := by decide +kernel
theorem dX9_write_70 : decode cX9_write 70 = .ok (.iinc 4 (-1), 3) := by decide +kernel
theorem dX9_write_73 : decode cX9_write 73 = .ok (.goto (-39), 3) := by decide +kernel
theorem dX9_write_76 : decode cX9_write 76 = .ok (.aload_n 0, 1) := by decide +kernel
theorem dX9_write_77 : decode cX9_write 77 = .ok (.getfield 96, 3) := by decide +kernel
theorem dX9_write_80 : decode cX9_write 80 = .ok (.ireturn, 1) := by decide +kernel
theorem dX9_wipe_0 : decode cX9_wipe 0 = .ok (.aload_n 0, 1) := by decide +kernel
theorem dX9_wipe_1 : decode cX9_wipe 1 = .ok (.getfield 96, 3) := by decide +kernel
theorem dX9_wipe_4 : decode cX9_wipe 4 = .ok (.istore_n 1, 1) := by decide +kernel
theorem dX9_wipe_5 : decode cX9_wipe 5 = .ok (.aload_n 0, 1) := by decide +kernel
theorem dX9_wipe_6 : decode cX9_wipe 6 = .ok (.iconst 0, 1) := by decide +kernel
theorem dX9_wipe_7 : decode cX9_wipe 7 = .ok (.putfield 96, 3) := by decide +kernel
theorem dX9_wipe_10 : decode cX9_wipe 10 = .ok (.iload_n 1, 1) := by decide +kernel
theorem dX9_wipe_11 : decode cX9_wipe 11 = .ok (.ireturn, 1) := by decide +kernel
theorem dX9_byteAt_0 : decode cX9_byteAt 0 = .ok (.iload_n 1, 1) := by decide +kernel
theorem dX9_byteAt_1 : decode cX9_byteAt 1 = .ok (.aload_n 0, 1) := by decide +kernel
theorem dX9_byteAt_2 : decode cX9_byteAt 2 = .ok (.getfield 96, 3) := by decide +kernel
theorem dX9_byteAt_5 : decode cX9_byteAt 5 = .ok (.if_icmp .ge 12, 3) := by decide +kernel
theorem dX9_byteAt_8 : decode cX9_byteAt 8 = .ok (.aload_n 0, 1) := by decide +kernel
theorem dX9_byteAt_9 : decode cX9_byteAt 9 = .ok (.getfield 7, 3) := by decide +kernel
theorem dX9_byteAt_12 : decode cX9_byteAt 12 = .ok (.iload_n 1, 1) := by decide +kernel
theorem dX9_byteAt_13 : decode cX9_byteAt 13 = .ok (.iaload, 1) := by decide +kernel
theorem dX9_byteAt_14 : decode cX9_byteAt 14 = .ok (.goto 4, 3) := by decide +kernel
theorem dX9_byteAt_17 : decode cX9_byteAt 17 = .ok (.iconst 0, 1) := by decide +kernel
theorem dX9_byteAt_18 : decode cX9_byteAt 18 = .ok (.ireturn, 1) := by decide +kernel
theorem dX9_figures_0 : decode cX9_figures 0 = .ok (.iconst 0, 1) := by decide +kernel
theorem dX9_figures_1 : decode cX9_figures 1 = .ok (.istore_n 2, 1) := by decide +kernel
theorem dX9_figures_2 : decode cX9_figures 2 = .ok (.iload_n 2, 1) := by decide +kernel
theorem dX9_figures_3 : decode cX9_figures 3 = .ok (.iload_n 1, 1) := by decide +kernel
theorem dX9_figures_4 : decode cX9_figures 4 = .ok (.if_icmp .ge 132, 3) := by decide +kernel
theorem dX9_figures_7 : decode cX9_figures 7 = .ok (.iconst 0, 1) := by decide +kernel
theorem dX9_figures_8 : decode cX9_figures 8 = .ok (.istore_n 3, 1) := by decide +kernel
theorem dX9_figures_9 : decode cX9_figures 9 = .ok (.iconst 0, 1) := by decide +kernel
theorem dX9_figures_10 : decode cX9_figures 10 = .ok (.istore 4, 2) := by decide +kernel
theorem dX9_figures_12 : decode cX9_figures 12 = .ok (.aload_n 0, 1) := by decide +kernel
theorem dX9_figures_13 : decode cX9_figures 13 = .ok (.aload_n 0, 1) := by decide +kernel
theorem dX9_figures_14 : decode cX9_figures 14 = .ok (.getfield 102, 3) := by decide +kernel
theorem dX9_figures_17 : decode cX9_figures 17 = .ok (.invokevirtual 105, 3) := by decide +kernel
theorem dX9_figures_20 : decode cX9_figures 20 = .ok (.i2l, 1) := by decide +kernel
theorem dX9_figures_21 : decode cX9_figures 21 = .ok (.ldc2_w 109, 3) := by decide +kernel
theorem dX9_figures_24 : decode cX9_figures 24 = .ok (.ldc2_w 111, 3) := by decide +kernel
theorem dX9_figures_27 : decode cX9_figures 27 = .ok (.invokestatic 92, 3) := by decide +kernel
theorem dX9_figures_30 : decode cX9_figures 30 = .ok (.ifCond .eq 43, 3) := by decide +kernel
theorem dX9_figures_33 : decode cX9_figures 33 = .ok (.iload_n 3, 1) := by decide +kernel
theorem dX9_figures_34 : decode cX9_figures 34 = .ok (.iconst 3, 1) := by decide +kernel
theorem dX9_figures_35 : decode cX9_figures 35 = .ok (.if_icmp .ge 38, 3) := by decide +kernel
theorem dX9_figures_38 : decode cX9_figures 38 = .ok (.bipush 10, 2) := by decide +kernel
theorem dX9_figures_40 : decode cX9_figures 40 = .ok (.iload 4, 2) := by decide +kernel
theorem dX9_figures_42 : decode cX9_figures 42 = .ok (.imul, 1) := by decide +kernel
theorem dX9_figures_43 : decode cX9_figures 43 = .ok (.aload_n 0, 1) := by decide +kernel
theorem dX9_figures_44 : decode cX9_figures 44 = .ok (.aload_n 0, 1) := by decide +kernel
theorem dX9_figures_45 : decode cX9_figures 45 = .ok (.getfield 102, 3) := by decide +kernel
theorem dX9_figures_48 : decode cX9_figures 48 = .ok (.invokevirtual 105, 3) := by decide +kernel
theorem dX9_figures_51 : decode cX9_figures 51 = .ok (.iadd, 1) := by decide +kernel
theorem dX9_figures_52 : decode cX9_figures 52 = .ok (.bipush 48, 2) := by decide +kernel
theorem dX9_figures_54 : decode cX9_figures 54 = .ok (.isub, 1) := by decide +kernel
theorem dX9_figures_55 : decode cX9_figures 55 = .ok (.istore 4, 2) := by decide +kernel
theorem dX9_figures_57 : decode cX9_figures 57 = .ok (.iinc 3 1, 3) := by decide +kernel
theorem dX9_figures_60 : decode cX9_figures 60 = .ok (.aload_n 0, 1) := by decide +kernel
theorem dX9_figures_61 : decode cX9_figures 61 = .ok (.dup, 1) := by decide +kernel
theorem dX9_figures_62 : decode cX9_figures 62 = .ok (.getfield 102, 3) := by decide +kernel
theorem dX9_figures_65 : decode cX9_figures 65 = .ok (.iconst 1, 1) := by decide +kernel
theorem dX9_figures_66 : decode cX9_figures 66 = .ok (.iadd, 1) := by decide +kernel
theorem dX9_figures_67 : decode cX9_figures 67 = .ok (.putfield 102, 3) := by decide +kernel
theorem dX9_figures_70 : decode cX9_figures 70 = .ok (.goto (-58), 3) := by decide +kernel
theorem dX9_figures_73 : decode cX9_figures 73 = .ok (.iload_n 3, 1) := by decide +kernel
theorem dX9_figures_74 : decode cX9_figures 74 = .ok (.i2l, 1) := by decide +kernel
theorem dX9_figures_75 : decode cX9_figures 75 = .ok (.lconst 1, 1) := by decide +kernel
theorem dX9_figures_76 : decode cX9_figures 76 = .ok (.ldc2_w 113, 3) := by decide +kernel
theorem dX9_figures_79 : decode cX9_figures 79 = .ok (.invokestatic 92, 3) := by decide +kernel
theorem dX9_figures_82 : decode cX9_figures 82 = .ok (.ifCond .eq 28, 3) := by decide +kernel
theorem dX9_figures_85 : decode cX9_figures 85 = .ok (.aload_n 0, 1) := by decide +kernel
theorem dX9_figures_86 : decode cX9_figures 86 = .ok (.aload_n 0, 1) := by decide +kernel
theorem dX9_figures_87 : decode cX9_figures 87 = .ok (.getfield 102, 3) := by decide +kernel
theorem dX9_figures_90 : decode cX9_figures 90 = .ok (.invokevirtual 105, 3) := by decide +kernel
theorem dX9_figures_93 : decode cX9_figures 93 = .ok (.iload_n 2, 1) := by decide +kernel
theorem dX9_figures_94 : decode cX9_figures 94 = .ok (.iload_n 1, 1) := by decide +kernel
theorem dX9_figures_95 : decode cX9_figures 95 = .ok (.iconst 1, 1) := by decide +kernel
theorem dX9_figures_96 : decode cX9_figures 96 = .ok (.isub, 1) := by decide +kernel
theorem dX9_figures_97 : decode cX9_figures 97 = .ok (.if_icmp .ge 8, 3) := by decide +kernel
theorem dX9_figures_100 : decode cX9_figures 100 = .ok (.bipush 44, 2) := by decide +kernel
theorem dX9_figures_102 : decode cX9_figures 102 = .ok (.goto 5, 3) := by decide +kernel
theorem dX9_figures_105 : decode cX9_figures 105 = .ok (.bipush 59, 2) := by decide +kernel
theorem dX9_figures_107 : decode cX9_figures 107 = .ok (.if_icmp .eq 5, 3) := by decide +kernel
theorem dX9_figures_110 : decode cX9_figures 110 = .ok (.iconst 0, 1) := by decide +kernel
theorem dX9_figures_111 : decode cX9_figures 111 = .ok (.ireturn, 1) := by decide +kernel
theorem dX9_figures_112 : decode cX9_figures 112 = .ok (.aload_n 0, 1) := by decide +kernel
theorem dX9_figures_113 : decode cX9_figures 113 = .ok (.getfield 49, 3) := by decide +kernel
theorem dX9_figures_116 : decode cX9_figures 116 = .ok (.iload_n 2, 1) := by decide +kernel
theorem dX9_figures_117 : decode cX9_figures 117 = .ok (.iload 4, 2) := by decide +kernel
theorem dX9_figures_119 : decode cX9_figures 119 = .ok (.iastore, 1) := by decide +kernel
theorem dX9_figures_120 : decode cX9_figures 120 = .ok (.aload_n 0, 1) := by decide +kernel
theorem dX9_figures_121 : decode cX9_figures 121 = .ok (.dup, 1) := by decide +kernel
theorem dX9_figures_122 : decode cX9_figures 122 = .ok (.getfield 102, 3) := by decide +kernel
theorem dX9_figures_125 : decode cX9_figures 125 = .ok (.iconst 1, 1) := by decide +kernel
theorem dX9_figures_126 : decode cX9_figures 126 = .ok (.iadd, 1) := by decide +kernel
theorem dX9_figures_127 : decode cX9_figures 127 = .ok (.putfield 102, 3) := by decide +kernel
theorem dX9_figures_130 : decode cX9_figures 130 = .ok (.iinc 2 1, 3) := by decide +kernel
theorem dX9_figures_133 : decode cX9_figures 133 = .ok (.goto (-131), 3) := by decide +kernel
theorem dX9_figures_136 : decode cX9_figures 136 = .ok (.iconst 1, 1) := by decide +kernel
theorem dX9_figures_137 : decode cX9_figures 137 = .ok (.ireturn, 1) := by decide +kernel
theorem dX9_isEdge_0 : decode cX9_isEdge 0 = .ok (.iload_n 0, 1) := by decide +kernel
theorem dX9_isEdge_1 : decode cX9_isEdge 1 = .ok (.i2l, 1) := by decide +kernel
theorem dX9_isEdge_2 : decode cX9_isEdge 2 = .ok (.lconst 0, 1) := by decide +kernel
theorem dX9_isEdge_3 : decode cX9_isEdge 3 = .ok (.ldc2_w 115, 3) := by decide +kernel
theorem dX9_isEdge_6 : decode cX9_isEdge 6 = .ok (.invokestatic 92, 3) := by decide +kernel
theorem dX9_isEdge_9 : decode cX9_isEdge 9 = .ok (.ireturn, 1) := by decide +kernel
theorem dX9_wordItem_0 : decode cX9_wordItem 0 = .ok (.aload_n 0, 1) := by decide +kernel
theorem dX9_wordItem_1 : decode cX9_wordItem 1 = .ok (.iconst 3, 1) := by decide +kernel
theorem dX9_wordItem_2 : decode cX9_wordItem 2 = .ok (.invokevirtual 117, 3) := by decide +kernel
theorem dX9_wordItem_5 : decode cX9_wordItem 5 = .ok (.ifCond .eq 49, 3) := by decide +kernel
theorem dX9_wordItem_8 : decode cX9_wordItem 8 = .ok (.aload_n 0, 1) := by decide +kernel
theorem dX9_wordItem_9 : decode cX9_wordItem 9 = .ok (.getfield 49, 3) := by decide +kernel
theorem dX9_wordItem_12 : decode cX9_wordItem 12 = .ok (.iconst 0, 1) := by decide +kernel
theorem dX9_wordItem_13 : decode cX9_wordItem 13 = .ok (.iaload, 1) := by decide +kernel
theorem dX9_wordItem_14 : decode cX9_wordItem 14 = .ok (.invokestatic 121, 3) := by decide +kernel
theorem dX9_wordItem_17 : decode cX9_wordItem 17 = .ok (.ifCond .eq 37, 3) := by decide +kernel
theorem dX9_wordItem_20 : decode cX9_wordItem 20 = .ok (.aload_n 0, 1) := by decide +kernel
theorem dX9_wordItem_21 : decode cX9_wordItem 21 = .ok (.getfield 49, 3) := by decide +kernel
theorem dX9_wordItem_24 : decode cX9_wordItem 24 = .ok (.iconst 1, 1) := by decide +kernel
theorem dX9_wordItem_25 : decode cX9_wordItem 25 = .ok (.iaload, 1) := by decide +kernel
theorem dX9_wordItem_26 : decode cX9_wordItem 26 = .ok (.bipush 15, 2) := by decide +kernel
theorem dX9_wordItem_28 : decode cX9_wordItem 28 = .ok (.if_icmp .gt 26, 3) := by decide +kernel
theorem dX9_wordItem_31 : decode cX9_wordItem 31 = .ok (.aload_n 0, 1) := by decide +kernel
theorem dX9_wordItem_32 : decode cX9_wordItem 32 = .ok (.getfield 49, 3) := by decide +kernel
theorem dX9_wordItem_35 : decode cX9_wordItem 35 = .ok (.iconst 2, 1) := by decide +kernel
theorem dX9_wordItem_36 : decode cX9_wordItem 36 = .ok (.iaload, 1) := by decide +kernel
theorem dX9_wordItem_37 : decode cX9_wordItem 37 = .ok (.invokestatic 121, 3) := by decide +kernel
theorem dX9_wordItem_40 : decode cX9_wordItem 40 = .ok (.ifCond .eq 14, 3) := by decide +kernel
theorem dX9_wordItem_43 : decode cX9_wordItem 43 = .ok (.aload_n 0, 1) := by decide +kernel
theorem dX9_wordItem_44 : decode cX9_wordItem 44 = .ok (.getfield 13, 3) := by decide +kernel
theorem dX9_wordItem_47 : decode cX9_wordItem 47 = .ok (.iconst 1, 1) := by decide +kernel
theorem dX9_wordItem_48 : decode cX9_wordItem 48 = .ok (.iaload, 1) := by decide +kernel
theorem dX9_wordItem_49 : decode cX9_wordItem 49 = .ok (.bipush 16, 2) := by decide +kernel
theorem dX9_wordItem_51 : decode cX9_wordItem 51 = .ok (.if_icmp .ne 5, 3) := by decide +kernel
theorem dX9_wordItem_54 : decode cX9_wordItem 54 = .ok (.iconst 0, 1) := by decide +kernel
theorem dX9_wordItem_55 : decode cX9_wordItem 55 = .ok (.ireturn, 1) := by decide +kernel
theorem dX9_wordItem_56 : decode cX9_wordItem 56 = .ok (.iconst 0, 1) := by decide +kernel
theorem dX9_wordItem_57 : decode cX9_wordItem 57 = .ok (.istore_n 1, 1) := by decide +kernel
theorem dX9_wordItem_58 : decode cX9_wordItem 58 = .ok (.iload_n 1, 1) := by decide +kernel
theorem dX9_wordItem_59 : decode cX9_wordItem 59 = .ok (.aload_n 0, 1) := by decide +kernel
theorem dX9_wordItem_60 : decode cX9_wordItem 60 = .ok (.getfield 13, 3) := by decide +kernel
theorem dX9_wordItem_63 : decode cX9_wordItem 63 = .ok (.iconst 1, 1) := by decide +kernel
theorem dX9_wordItem_64 : decode cX9_wordItem 64 = .ok (.iaload, 1) := by decide +kernel
theorem dX9_wordItem_65 : decode cX9_wordItem 65 = .ok (.if_icmp .ge 67, 3) := by decide +kernel
theorem dX9_wordItem_68 : decode cX9_wordItem 68 = .ok (.bipush 48, 2) := by decide +kernel
theorem dX9_wordItem_70 : decode cX9_wordItem 70 = .ok (.iconst 3, 1) := by decide +kernel
theorem dX9_wordItem_71 : decode cX9_wordItem 71 = .ok (.iload_n 1, 1) := by decide +kernel
theorem dX9_wordItem_72 : decode cX9_wordItem 72 = .ok (.imul, 1) := by decide +kernel
theorem dX9_wordItem_73 : decode cX9_wordItem 73 = .ok (.iadd, 1) := by decide +kernel
theorem dX9_wordItem_74 : decode cX9_wordItem 74 = .ok (.istore_n 2, 1) := by decide +kernel
theorem dX9_wordItem_75 : decode cX9_wordItem 75 = .ok (.aload_n 0, 1) := by decide +kernel
theorem dX9_wordItem_76 : decode cX9_wordItem 76 = .ok (.getfield 16, 3) := by decide +kernel
theorem dX9_wordItem_79 : decode cX9_wordItem 79 = .ok (.iload_n 2, 1) := by decide +kernel
theorem dX9_wordItem_80 : decode cX9_wordItem 80 = .ok (.iaload, 1) := by decide +kernel
theorem dX9_wordItem_81 : decode cX9_wordItem 81 = .ok (.aload_n 0, 1) := by decide +kernel
theorem dX9_wordItem_82 : decode cX9_wordItem 82 = .ok (.getfield 49, 3) := by decide +kernel
theorem dX9_wordItem_85 : decode cX9_wordItem 85 = .ok (.iconst 0, 1) := by decide +kernel
theorem dX9_wordItem_86 : decode cX9_wordItem 86 = .ok (.iaload, 1) := by decide +kernel
theorem dX9_wordItem_87 : decode cX9_wordItem 87 = .ok (.if_icmp .ne 39, 3) := by decide +kernel
theorem dX9_wordItem_90 : decode cX9_wordItem 90 = .ok (.aload_n 0, 1) := by decide +kernel
theorem dX9_wordItem_91 : decode cX9_wordItem 91 = .ok (.getfield 16, 3) := by decide +kernel
theorem dX9_wordItem_94 : decode cX9_wordItem 94 = .ok (.iload_n 2, 1) := by decide +kernel
theorem dX9_wordItem_95 : decode cX9_wordItem 95 = .ok (.iconst 1, 1) := by decide +kernel
theorem dX9_wordItem_96 : decode cX9_wordItem 96 = .ok (.iadd, 1) := by decide +kernel
theorem dX9_wordItem_97 : decode cX9_wordItem 97 = .ok (.iaload, 1) := by decide +kernel
theorem dX9_wordItem_98 : decode cX9_wordItem 98 = .ok (.aload_n 0, 1) := by decide +kernel
theorem dX9_wordItem_99 : decode cX9_wordItem 99 = .ok (.getfield 49, 3) := by decide +kernel
theorem dX9_wordItem_102 : decode cX9_wordItem 102 = .ok (.iconst 1, 1) := by decide +kernel
theorem dX9_wordItem_103 : decode cX9_wordItem 103 = .ok (.iaload, 1) := by decide +kernel
theorem dX9_wordItem_104 : decode cX9_wordItem 104 = .ok (.if_icmp .ne 22, 3) := by decide +kernel
theorem dX9_wordItem_107 : decode cX9_wordItem 107 = .ok (.aload_n 0, 1) := by decide +kernel
theorem dX9_wordItem_108 : decode cX9_wordItem 108 = .ok (.getfield 16, 3) := by decide +kernel
theorem dX9_wordItem_111 : decode cX9_wordItem 111 = .ok (.iload_n 2, 1) := by decide +kernel
theorem dX9_wordItem_112 : decode cX9_wordItem 112 = .ok (.iconst 2, 1) := by decide +kernel
theorem dX9_wordItem_113 : decode cX9_wordItem 113 = .ok (.iadd, 1) := by decide +kernel
theorem dX9_wordItem_114 : decode cX9_wordItem 114 = .ok (.iaload, 1) := by decide +kernel
theorem dX9_wordItem_115 : decode cX9_wordItem 115 = .ok (.aload_n 0, 1) := by decide +kernel
theorem dX9_wordItem_116 : decode cX9_wordItem 116 = .ok (.getfield 49, 3) := by decide +kernel
theorem dX9_wordItem_119 : decode cX9_wordItem 119 = .ok (.iconst 2, 1) := by decide +kernel
theorem dX9_wordItem_120 : decode cX9_wordItem 120 = .ok (.iaload, 1) := by decide +kernel
theorem dX9_wordItem_121 : decode cX9_wordItem 121 = .ok (.if_icmp .ne 5, 3) := by decide +kernel
theorem dX9_wordItem_124 : decode cX9_wordItem 124 = .ok (.iconst 0, 1) := by decide +kernel
theorem dX9_wordItem_125 : decode cX9_wordItem 125 = .ok (.ireturn, 1) := by decide +kernel
theorem dX9_wordItem_126 : decode cX9_wordItem 126 = .ok (.iinc 1 1, 3) := by decide +kernel
theorem dX9_wordItem_129 : decode cX9_wordItem 129 = .ok (.goto (-71), 3) := by decide +kernel
theorem dX9_wordItem_132 : decode cX9_wordItem 132 = .ok (.iconst 0, 1) := by decide +kernel
theorem dX9_wordItem_133 : decode cX9_wordItem 133 = .ok (.istore_n 1, 1) := by decide +kernel
theorem dX9_wordItem_134 : decode cX9_wordItem 134 = .ok (.iload_n 1, 1) := by decide +kernel
theorem dX9_wordItem_135 : decode cX9_wordItem 135 = .ok (.iconst 3, 1) := by decide +kernel
theorem dX9_wordItem_136 : decode cX9_wordItem 136 = .ok (.if_icmp .ge 33, 3) := by decide +kernel
theorem dX9_wordItem_139 : decode cX9_wordItem 139 = .ok (.aload_n 0, 1) := by decide +kernel
theorem dX9_wordItem_140 : decode cX9_wordItem 140 = .ok (.getfield 16, 3) := by decide +kernel
theorem dX9_wordItem_143 : decode cX9_wordItem 143 = .ok (.bipush 48, 2) := by decide +kernel
theorem dX9_wordItem_145 : decode cX9_wordItem 145 = .ok (.iconst 3, 1) := by decide +kernel
theorem dX9_wordItem_146 : decode cX9_wordItem 146 = .ok (.aload_n 0, 1) := by decide +kernel
theorem dX9_wordItem_147 : decode cX9_wordItem 147 = .ok (.getfield 13, 3) := by decide +kernel
theorem dX9_wordItem_150 : decode cX9_wordItem 150 = .ok (.iconst 1, 1) := by decide +kernel
theorem dX9_wordItem_151 : decode cX9_wordItem 151 = .ok (.iaload, 1) := by decide +kernel
theorem dX9_wordItem_152 : decode cX9_wordItem 152 = .ok (.imul, 1) := by decide +kernel
theorem dX9_wordItem_153 : decode cX9_wordItem 153 = .ok (.iadd, 1) := by decide +kernel
theorem dX9_wordItem_154 : decode cX9_wordItem 154 = .ok (.iload_n 1, 1) := by decide +kernel
theorem dX9_wordItem_155 : decode cX9_wordItem 155 = .ok (.iadd, 1) := by decide +kernel
theorem dX9_wordItem_156 : decode cX9_wordItem 156 = .ok (.aload_n 0, 1) := by decide +kernel
theorem dX9_wordItem_157 : decode cX9_wordItem 157 = .ok (.getfield 49, 3) := by decide +kernel
theorem dX9_wordItem_160 : decode cX9_wordItem 160 = .ok (.iload_n 1, 1) := by decide +kernel
theorem dX9_wordItem_161 : decode cX9_wordItem 161 = .ok (.iaload, 1) := by decide +kernel
theorem dX9_wordItem_162 : decode cX9_wordItem 162 = .ok (.iastore, 1) := by decide +kernel
theorem dX9_wordItem_163 : decode cX9_wordItem 163 = .ok (.iinc 1 1, 3) := by decide +kernel
theorem dX9_wordItem_166 : decode cX9_wordItem 166 = .ok (.goto (-32), 3) := by decide +kernel
theorem dX9_wordItem_169 : decode cX9_wordItem 169 = .ok (.aload_n 0, 1) := by decide +kernel
theorem dX9_wordItem_170 : decode cX9_wordItem 170 = .ok (.getfield 13, 3) := by decide +kernel
theorem dX9_wordItem_173 : decode cX9_wordItem 173 = .ok (.iconst 1, 1) := by decide +kernel
theorem dX9_wordItem_174 : decode cX9_wordItem 174 = .ok (.dup2, 1) := by decide +kernel
theorem dX9_wordItem_175 : decode cX9_wordItem 175 = .ok (.iaload, 1) := by decide +kernel
theorem dX9_wordItem_176 : decode cX9_wordItem 176 = .ok (.iconst 1, 1) := by decide +kernel
theorem dX9_wordItem_177 : decode cX9_wordItem 177 = .ok (.iadd, 1) := by decide +kernel
theorem dX9_wordItem_178 : decode cX9_wordItem 178 = .ok (.iastore, 1) := by decide +kernel
theorem dX9_wordItem_179 : decode cX9_wordItem 179 = .ok (.iconst 1, 1) := by decide +kernel
theorem dX9_wordItem_180 : decode cX9_wordItem 180 = .ok (.ireturn, 1) := by decide +kernel
theorem dX9_item_0 : decode cX9_item 0 = .ok (.aload_n 0, 1) := by decide +kernel
theorem dX9_item_1 : decode cX9_item 1 = .ok (.aload_n 0, 1) := by decide +kernel
theorem dX9_item_2 : decode cX9_item 2 = .ok (.getfield 102, 3) := by decide +kernel
theorem dX9_item_5 : decode cX9_item 5 = .ok (.invokevirtual 105, 3) := by decide +kernel
theorem dX9_item_8 : decode cX9_item 8 = .ok (.istore_n 1, 1) := by decide +kernel
theorem dX9_item_9 : decode cX9_item 9 = .ok (.aload_n 0, 1) := by decide +kernel
theorem dX9_item_10 : decode cX9_item 10 = .ok (.dup, 1) := by decide +kernel
theorem dX9_item_11 : decode cX9_item 11 = .ok (.getfield 102, 3) := by decide +kernel
theorem dX9_item_14 : decode cX9_item 14 = .ok (.iconst 1, 1) := by decide +kernel
theorem dX9_item_15 : decode cX9_item 15 = .ok (.iadd, 1) := by decide +kernel
theorem dX9_item_16 : decode cX9_item 16 = .ok (.putfield 102, 3) := by decide +kernel
theorem dX9_item_19 : decode cX9_item 19 = .ok (.iload_n 1, 1) := by decide +kernel
theorem dX9_item_20 : decode cX9_item 20 = .ok (.lookupswitch 189 #[(104, 141), (106, 41), (119, 36)], 36) := by decide +kernel
theorem dX9_item_56 : decode cX9_item 56 = .ok (.aload_n 0, 1) := by decide +kernel
theorem dX9_item_57 : decode cX9_item 57 = .ok (.invokevirtual 124, 3) := by decide +kernel
theorem dX9_item_60 : decode cX9_item 60 = .ok (.ireturn, 1) := by decide +kernel
theorem dX9_item_61 : decode cX9_item 61 = .ok (.aload_n 0, 1) := by decide +kernel
theorem dX9_item_62 : decode cX9_item 62 = .ok (.iconst 4, 1) := by decide +kernel
theorem dX9_item_63 : decode cX9_item 63 = .ok (.invokevirtual 117, 3) := by decide +kernel
theorem dX9_item_66 : decode cX9_item 66 = .ok (.ifCond .eq 51, 3) := by decide +kernel
theorem dX9_item_69 : decode cX9_item 69 = .ok (.aload_n 0, 1) := by decide +kernel
theorem dX9_item_70 : decode cX9_item 70 = .ok (.getfield 49, 3) := by decide +kernel
theorem dX9_item_73 : decode cX9_item 73 = .ok (.iconst 0, 1) := by decide +kernel
theorem dX9_item_74 : decode cX9_item 74 = .ok (.iaload, 1) := by decide +kernel
theorem dX9_item_75 : decode cX9_item 75 = .ok (.invokestatic 121, 3) := by decide +kernel
theorem dX9_item_78 : decode cX9_item 78 = .ok (.ifCond .eq 39, 3) := by decide +kernel
theorem dX9_item_81 : decode cX9_item 81 = .ok (.aload_n 0, 1) := by decide +kernel
theorem dX9_item_82 : decode cX9_item 82 = .ok (.getfield 49, 3) := by decide +kernel
theorem dX9_item_85 : decode cX9_item 85 = .ok (.iconst 1, 1) := by decide +kernel
theorem dX9_item_86 : decode cX9_item 86 = .ok (.iaload, 1) := by decide +kernel
theorem dX9_item_87 : decode cX9_item 87 = .ok (.invokestatic 121, 3) := by decide +kernel
theorem dX9_item_90 : decode cX9_item 90 = .ok (.ifCond .eq 27, 3) := by decide +kernel
theorem dX9_item_93 : decode cX9_item 93 = .ok (.aload_n 0, 1) := by decide +kernel
theorem dX9_item_94 : decode cX9_item 94 = .ok (.getfield 49, 3) := by decide +kernel
theorem dX9_item_97 : decode cX9_item 97 = .ok (.iconst 2, 1) := by decide +kernel
theorem dX9_item_98 : decode cX9_item 98 = .ok (.iaload, 1) := by decide +kernel
theorem dX9_item_99 : decode cX9_item 99 = .ok (.invokestatic 121, 3) := by decide +kernel
theorem dX9_item_102 : decode cX9_item 102 = .ok (.ifCond .eq 15, 3) := by decide +kernel
theorem dX9_item_105 : decode cX9_item 105 = .ok (.aload_n 0, 1) := by decide +kernel
theorem dX9_item_106 : decode cX9_item 106 = .ok (.getfield 49, 3) := by decide +kernel
theorem dX9_item_109 : decode cX9_item 109 = .ok (.iconst 3, 1) := by decide +kernel
theorem dX9_item_110 : decode cX9_item 110 = .ok (.iaload, 1) := by decide +kernel
theorem dX9_item_111 : decode cX9_item 111 = .ok (.invokestatic 121, 3) := by decide +kernel
theorem dX9_item_114 : decode cX9_item 114 = .ok (.ifCond .ne 5, 3) := by decide +kernel
theorem dX9_item_117 : decode cX9_item 117 = .ok (.iconst 0, 1) := by decide +kernel
theorem dX9_item_118 : decode cX9_item 118 = .ok (.ireturn, 1) := by decide +kernel
theorem dX9_item_119 : decode cX9_item 119 = .ok (.aload_n 0, 1) := by decide +kernel
theorem dX9_item_120 : decode cX9_item 120 = .ok (.getfield 19, 3) := by decide +kernel
theorem dX9_item_123 : decode cX9_item 123 = .ok (.bipush 64, 2) := by decide +kernel
theorem dX9_item_125 : decode cX9_item 125 = .ok (.bipush 8, 2) := by decide +kernel
theorem dX9_item_127 : decode cX9_item 127 = .ok (.aload_n 0, 1) := by decide +kernel
theorem dX9_item_128 : decode cX9_item 128 = .ok (.getfield 49, 3) := by decide +kernel
theorem dX9_item_131 : decode cX9_item 131 = .ok (.iconst 0, 1) := by decide +kernel
theorem dX9_item_132 : decode cX9_item 132 = .ok (.iaload, 1) := by decide +kernel
theorem dX9_item_133 : decode cX9_item 133 = .ok (.imul, 1) := by decide +kernel
theorem dX9_item_134 : decode cX9_item 134 = .ok (.iadd, 1) := by decide +kernel
theorem dX9_item_135 : decode cX9_item 135 = .ok (.aload_n 0, 1) := by decide +kernel
theorem dX9_item_136 : decode cX9_item 136 = .ok (.getfield 49, 3) := by decide +kernel
theorem dX9_item_139 : decode cX9_item 139 = .ok (.iconst 1, 1) := by decide +kernel
theorem dX9_item_140 : decode cX9_item 140 = .ok (.iaload, 1) := by decide +kernel
theorem dX9_item_141 : decode cX9_item 141 = .ok (.iadd, 1) := by decide +kernel
theorem dX9_item_142 : decode cX9_item 142 = .ok (.bipush 8, 2) := by decide +kernel
theorem dX9_item_144 : decode cX9_item 144 = .ok (.aload_n 0, 1) := by decide +kernel
theorem dX9_item_145 : decode cX9_item 145 = .ok (.getfield 49, 3) := by decide +kernel
theorem dX9_item_148 : decode cX9_item 148 = .ok (.iconst 2, 1) := by decide +kernel
theorem dX9_item_149 : decode cX9_item 149 = .ok (.iaload, 1) := by decide +kernel
theorem dX9_item_150 : decode cX9_item 150 = .ok (.imul, 1) := by decide +kernel
theorem dX9_item_151 : decode cX9_item 151 = .ok (.aload_n 0, 1) := by decide +kernel
theorem dX9_item_152 : decode cX9_item 152 = .ok (.getfield 49, 3) := by decide +kernel
theorem dX9_item_155 : decode cX9_item 155 = .ok (.iconst 3, 1) := by decide +kernel
theorem dX9_item_156 : decode cX9_item 156 = .ok (.iaload, 1) := by decide +kernel
theorem dX9_item_157 : decode cX9_item 157 = .ok (.iadd, 1) := by decide +kernel
theorem dX9_item_158 : decode cX9_item 158 = .ok (.iastore, 1) := by decide +kernel
theorem dX9_item_159 : decode cX9_item 159 = .ok (.iconst 1, 1) := by decide +kernel
theorem dX9_item_160 : decode cX9_item 160 = .ok (.ireturn, 1) := by decide +kernel
theorem dX9_item_161 : decode cX9_item 161 = .ok (.aload_n 0, 1) := by decide +kernel
theorem dX9_item_162 : decode cX9_item 162 = .ok (.iconst 2, 1) := by decide +kernel
theorem dX9_item_163 : decode cX9_item 163 = .ok (.invokevirtual 117, 3) := by decide +kernel
theorem dX9_item_166 : decode cX9_item 166 = .ok (.ifCond .eq 20, 3) := by decide +kernel
theorem dX9_item_169 : decode cX9_item 169 = .ok (.aload_n 0, 1) := by decide +kernel
theorem dX9_item_170 : decode cX9_item 170 = .ok (.getfield 49, 3) := by decide +kernel
theorem dX9_item_173 : decode cX9_item 173 = .ok (.iconst 0, 1) := by decide +kernel
theorem dX9_item_174 : decode cX9_item 174 = .ok (.iaload, 1) := by decide +kernel
theorem dX9_item_175 : decode cX9_item 175 = .ok (.i2l, 1) := by decide +kernel
theorem dX9_item_176 : decode cX9_item 176 = .ok (.lconst 0, 1) := by decide +kernel
theorem dX9_item_177 : decode cX9_item 177 = .ok (.ldc2_w 128, 3) := by decide +kernel
theorem dX9_item_180 : decode cX9_item 180 = .ok (.invokestatic 92, 3) := by decide +kernel
theorem dX9_item_183 : decode cX9_item 183 = .ok (.ifCond .ne 5, 3) := by decide +kernel
theorem dX9_item_186 : decode cX9_item 186 = .ok (.iconst 0, 1) := by decide +kernel
theorem dX9_item_187 : decode cX9_item 187 = .ok (.ireturn, 1) := by decide +kernel
theorem dX9_item_188 : decode cX9_item 188 = .ok (.aload_n 0, 1) := by decide +kernel
theorem dX9_item_189 : decode cX9_item 189 = .ok (.getfield 22, 3) := by decide +kernel
theorem dX9_item_192 : decode cX9_item 192 = .ok (.iconst 5, 1) := by decide +kernel
theorem dX9_item_193 : decode cX9_item 193 = .ok (.aload_n 0, 1) := by decide +kernel
theorem dX9_item_194 : decode cX9_item 194 = .ok (.getfield 49, 3) := by decide +kernel
theorem dX9_item_197 : decode cX9_item 197 = .ok (.iconst 0, 1) := by decide +kernel
theorem dX9_item_198 : decode cX9_item 198 = .ok (.iaload, 1) := by decide +kernel
theorem dX9_item_199 : decode cX9_item 199 = .ok (.iadd, 1) := by decide +kernel
theorem dX9_item_200 : decode cX9_item 200 = .ok (.aload_n 0, 1) := by decide +kernel
theorem dX9_item_201 : decode cX9_item 201 = .ok (.getfield 49, 3) := by decide +kernel
theorem dX9_item_204 : decode cX9_item 204 = .ok (.iconst 1, 1) := by decide +kernel
theorem dX9_item_205 : decode cX9_item 205 = .ok (.iaload, 1) := by decide +kernel
theorem dX9_item_206 : decode cX9_item 206 = .ok (.iastore, 1) := by decide +kernel
theorem dX9_item_207 : decode cX9_item 207 = .ok (.iconst 1, 1) := by decide +kernel
theorem dX9_item_208 : decode cX9_item 208 = .ok (.ireturn, 1) := by decide +kernel
theorem dX9_item_209 : decode cX9_item 209 = .ok (.iconst 0, 1) := by decide +kernel
theorem dX9_item_210 : decode cX9_item 210 = .ok (.ireturn, 1) := by decide +kernel
theorem dX9_readAll_0 : decode cX9_readAll 0 = .ok (.aload_n 0, 1) := by decide +kernel
theorem dX9_readAll_1 : decode cX9_readAll 1 = .ok (.iconst 1, 1) := by decide +kernel
theorem dX9_readAll_2 : decode cX9_readAll 2 = .ok (.invokevirtual 86, 3) := by decide +kernel
theorem dX9_readAll_5 : decode cX9_readAll 5 = .ok (.aload_n 0, 1) := by decide +kernel
theorem dX9_readAll_6 : decode cX9_readAll 6 = .ok (.iconst 0, 1) := by decide +kernel
theorem dX9_readAll_7 : decode cX9_readAll 7 = .ok (.putfield 102, 3) := by decide +kernel
theorem dX9_readAll_10 : decode cX9_readAll 10 = .ok (.aload_n 0, 1) := by decide +kernel
theorem dX9_readAll_11 : decode cX9_readAll 11 = .ok (.getfield 102, 3) := by decide +kernel
theorem dX9_readAll_14 : decode cX9_readAll 14 = .ok (.aload_n 0, 1) := by decide +kernel
theorem dX9_readAll_15 : decode cX9_readAll 15 = .ok (.getfield 96, 3) := by decide +kernel
theorem dX9_readAll_18 : decode cX9_readAll 18 = .ok (.if_icmp .ge 20, 3) := by decide +kernel
theorem dX9_readAll_21 : decode cX9_readAll 21 = .ok (.aload_n 0, 1) := by decide +kernel
theorem dX9_readAll_22 : decode cX9_readAll 22 = .ok (.getfield 102, 3) := by decide +kernel
theorem dX9_readAll_25 : decode cX9_readAll 25 = .ok (.istore_n 1, 1) := by decide +kernel
theorem dX9_readAll_26 : decode cX9_readAll 26 = .ok (.aload_n 0, 1) := by decide +kernel
theorem dX9_readAll_27 : decode cX9_readAll 27 = .ok (.invokevirtual 130, 3) := by decide +kernel
theorem dX9_readAll_30 : decode cX9_readAll 30 = .ok (.ifCond .ne 5, 3) := by decide +kernel
theorem dX9_readAll_33 : decode cX9_readAll 33 = .ok (.iload_n 1, 1) := by decide +kernel
theorem dX9_readAll_34 : decode cX9_readAll 34 = .ok (.ireturn, 1) := by decide +kernel
theorem dX9_readAll_35 : decode cX9_readAll 35 = .ok (.goto (-25), 3) := by decide +kernel
theorem dX9_readAll_38 : decode cX9_readAll 38 = .ok (.bipush (-4), 2) := by decide +kernel
theorem dX9_readAll_40 : decode cX9_readAll 40 = .ok (.ireturn, 1) := by decide +kernel
theorem dX9_fault_0 : decode cX9_fault 0 = .ok (.aload_n 0, 1) := by decide +kernel
theorem dX9_fault_1 : decode cX9_fault 1 = .ok (.invokevirtual 133, 3) := by decide +kernel
theorem dX9_fault_4 : decode cX9_fault 4 = .ok (.ireturn, 1) := by decide +kernel
theorem dX9_lay_0 : decode cX9_lay 0 = .ok (.aload_n 0, 1) := by decide +kernel
theorem dX9_lay_1 : decode cX9_lay 1 = .ok (.invokevirtual 133, 3) := by decide +kernel
theorem dX9_lay_4 : decode cX9_lay 4 = .ok (.bipush (-4), 2) := by decide +kernel
theorem dX9_lay_6 : decode cX9_lay 6 = .ok (.if_icmp .eq 6, 3) := by decide +kernel
theorem dX9_lay_9 : decode cX9_lay 9 = .ok (.bipush (-2), 2) := by decide +kernel
theorem dX9_lay_11 : decode cX9_lay 11 = .ok (.ireturn, 1) := by decide +kernel
theorem dX9_lay_12 : decode cX9_lay 12 = .ok (.aload_n 0, 1) := by decide +kernel
theorem dX9_lay_13 : decode cX9_lay 13 = .ok (.getfield 13, 3) := by decide +kernel
theorem dX9_lay_16 : decode cX9_lay 16 = .ok (.iconst 0, 1) := by decide +kernel
theorem dX9_lay_17 : decode cX9_lay 17 = .ok (.aload_n 0, 1) := by decide +kernel
theorem dX9_lay_18 : decode cX9_lay 18 = .ok (.getfield 13, 3) := by decide +kernel
theorem dX9_lay_21 : decode cX9_lay 21 = .ok (.iconst 1, 1) := by decide +kernel
theorem dX9_lay_22 : decode cX9_lay 22 = .ok (.iaload, 1) := by decide +kernel
theorem dX9_lay_23 : decode cX9_lay 23 = .ok (.iastore, 1) := by decide +kernel
theorem dX9_lay_24 : decode cX9_lay 24 = .ok (.iconst 0, 1) := by decide +kernel
theorem dX9_lay_25 : decode cX9_lay 25 = .ok (.istore_n 1, 1) := by decide +kernel
theorem dX9_lay_26 : decode cX9_lay 26 = .ok (.iload_n 1, 1) := by decide +kernel
theorem dX9_lay_27 : decode cX9_lay 27 = .ok (.bipush 48, 2) := by decide +kernel
theorem dX9_lay_29 : decode cX9_lay 29 = .ok (.if_icmp .ge 24, 3) := by decide +kernel
theorem dX9_lay_32 : decode cX9_lay 32 = .ok (.aload_n 0, 1) := by decide +kernel
theorem dX9_lay_33 : decode cX9_lay 33 = .ok (.getfield 16, 3) := by decide +kernel
theorem dX9_lay_36 : decode cX9_lay 36 = .ok (.iload_n 1, 1) := by decide +kernel
theorem dX9_lay_37 : decode cX9_lay 37 = .ok (.aload_n 0, 1) := by decide +kernel
theorem dX9_lay_38 : decode cX9_lay 38 = .ok (.getfield 16, 3) := by decide +kernel
theorem dX9_lay_41 : decode cX9_lay 41 = .ok (.bipush 48, 2) := by decide +kernel
theorem dX9_lay_43 : decode cX9_lay 43 = .ok (.iload_n 1, 1) := by decide +kernel
theorem dX9_lay_44 : decode cX9_lay 44 = .ok (.iadd, 1) := by decide +kernel
theorem dX9_lay_45 : decode cX9_lay 45 = .ok (.iaload, 1) := by decide +kernel
theorem dX9_lay_46 : decode cX9_lay 46 = .ok (.iastore, 1) := by decide +kernel
theorem dX9_lay_47 : decode cX9_lay 47 = .ok (.iinc 1 1, 3) := by decide +kernel
theorem dX9_lay_50 : decode cX9_lay 50 = .ok (.goto (-24), 3) := by decide +kernel
theorem dX9_lay_53 : decode cX9_lay 53 = .ok (.iconst 0, 1) := by decide +kernel
theorem dX9_lay_54 : decode cX9_lay 54 = .ok (.istore_n 1, 1) := by decide +kernel
theorem dX9_lay_55 : decode cX9_lay 55 = .ok (.iload_n 1, 1) := by decide +kernel
theorem dX9_lay_56 : decode cX9_lay 56 = .ok (.bipush 64, 2) := by decide +kernel
theorem dX9_lay_58 : decode cX9_lay 58 = .ok (.if_icmp .ge 24, 3) := by decide +kernel
theorem dX9_lay_61 : decode cX9_lay 61 = .ok (.aload_n 0, 1) := by decide +kernel
theorem dX9_lay_62 : decode cX9_lay 62 = .ok (.getfield 19, 3) := by decide +kernel
theorem dX9_lay_65 : decode cX9_lay 65 = .ok (.iload_n 1, 1) := by decide +kernel
theorem dX9_lay_66 : decode cX9_lay 66 = .ok (.aload_n 0, 1) := by decide +kernel
theorem dX9_lay_67 : decode cX9_lay 67 = .ok (.getfield 19, 3) := by decide +kernel
theorem dX9_lay_70 : decode cX9_lay 70 = .ok (.bipush 64, 2) := by decide +kernel
theorem dX9_lay_72 : decode cX9_lay 72 = .ok (.iload_n 1, 1) := by decide +kernel
theorem dX9_lay_73 : decode cX9_lay 73 = .ok (.iadd, 1) := by decide +kernel
theorem dX9_lay_74 : decode cX9_lay 74 = .ok (.iaload, 1) := by decide +kernel
theorem dX9_lay_75 : decode cX9_lay 75 = .ok (.iastore, 1) := by decide +kernel
theorem dX9_lay_76 : decode cX9_lay 76 = .ok (.iinc 1 1, 3) := by decide +kernel
theorem dX9_lay_79 : decode cX9_lay 79 = .ok (.goto (-24), 3) := by decide +kernel
theorem dX9_lay_82 : decode cX9_lay 82 = .ok (.iconst 0, 1) := by decide +kernel
theorem dX9_lay_83 : decode cX9_lay 83 = .ok (.istore_n 1, 1) := by decide +kernel
theorem dX9_lay_84 : decode cX9_lay 84 = .ok (.iload_n 1, 1) := by decide +kernel
theorem dX9_lay_85 : decode cX9_lay 85 = .ok (.iconst 5, 1) := by decide +kernel
theorem dX9_lay_86 : decode cX9_lay 86 = .ok (.if_icmp .ge 23, 3) := by decide +kernel
theorem dX9_lay_89 : decode cX9_lay 89 = .ok (.aload_n 0, 1) := by decide +kernel
theorem dX9_lay_90 : decode cX9_lay 90 = .ok (.getfield 22, 3) := by decide +kernel
theorem dX9_lay_93 : decode cX9_lay 93 = .ok (.iload_n 1, 1) := by decide +kernel
theorem dX9_lay_94 : decode cX9_lay 94 = .ok (.aload_n 0, 1) := by decide +kernel
theorem dX9_lay_95 : decode cX9_lay 95 = .ok (.getfield 22, 3) := by decide +kernel
theorem dX9_lay_98 : decode cX9_lay 98 = .ok (.iconst 5, 1) := by decide +kernel
theorem dX9_lay_99 : decode cX9_lay 99 = .ok (.iload_n 1, 1) := by decide +kernel
theorem dX9_lay_100 : decode cX9_lay 100 = .ok (.iadd, 1) := by decide +kernel
theorem dX9_lay_101 : decode cX9_lay 101 = .ok (.iaload, 1) := by decide +kernel
theorem dX9_lay_102 : decode cX9_lay 102 = .ok (.iastore, 1) := by decide +kernel
theorem dX9_lay_103 : decode cX9_lay 103 = .ok (.iinc 1 1, 3) := by decide +kernel
theorem dX9_lay_106 : decode cX9_lay 106 = .ok (.goto (-22), 3) := by decide +kernel
theorem dX9_lay_109 : decode cX9_lay 109 = .ok (.iconst 0, 1) := by decide +kernel
theorem dX9_lay_110 : decode cX9_lay 110 = .ok (.istore_n 1, 1) := by decide +kernel
theorem dX9_lay_111 : decode cX9_lay 111 = .ok (.iload_n 1, 1) := by decide +kernel
theorem dX9_lay_112 : decode cX9_lay 112 = .ok (.bipush 6, 2) := by decide +kernel
theorem dX9_lay_114 : decode cX9_lay 114 = .ok (.if_icmp .ge 16, 3) := by decide +kernel
theorem dX9_lay_117 : decode cX9_lay 117 = .ok (.aload_n 0, 1) := by decide +kernel
theorem dX9_lay_118 : decode cX9_lay 118 = .ok (.getfield 25, 3) := by decide +kernel
theorem dX9_lay_121 : decode cX9_lay 121 = .ok (.iload_n 1, 1) := by decide +kernel
theorem dX9_lay_122 : decode cX9_lay 122 = .ok (.iconst 0, 1) := by decide +kernel
theorem dX9_lay_123 : decode cX9_lay 123 = .ok (.iastore, 1) := by decide +kernel
theorem dX9_lay_124 : decode cX9_lay 124 = .ok (.iinc 1 1, 3) := by decide +kernel
theorem dX9_lay_127 : decode cX9_lay 127 = .ok (.goto (-16), 3) := by decide +kernel
theorem dX9_lay_130 : decode cX9_lay 130 = .ok (.aload_n 0, 1) := by decide +kernel
theorem dX9_lay_131 : decode cX9_lay 131 = .ok (.getfield 31, 3) := by decide +kernel
theorem dX9_lay_134 : decode cX9_lay 134 = .ok (.iconst 0, 1) := by decide +kernel
theorem dX9_lay_135 : decode cX9_lay 135 = .ok (.iconst 0, 1) := by decide +kernel
theorem dX9_lay_136 : decode cX9_lay 136 = .ok (.iastore, 1) := by decide +kernel
theorem dX9_lay_137 : decode cX9_lay 137 = .ok (.aload_n 0, 1) := by decide +kernel
theorem dX9_lay_138 : decode cX9_lay 138 = .ok (.iconst 0, 1) := by decide +kernel
theorem dX9_lay_139 : decode cX9_lay 139 = .ok (.putfield 137, 3) := by decide +kernel
theorem dX9_lay_142 : decode cX9_lay 142 = .ok (.aload_n 0, 1) := by decide +kernel
theorem dX9_lay_143 : decode cX9_lay 143 = .ok (.iconst 0, 1) := by decide +kernel
theorem dX9_lay_144 : decode cX9_lay 144 = .ok (.putfield 140, 3) := by decide +kernel
theorem dX9_lay_147 : decode cX9_lay 147 = .ok (.aload_n 0, 1) := by decide +kernel
theorem dX9_lay_148 : decode cX9_lay 148 = .ok (.iconst 0, 1) := by decide +kernel
theorem dX9_lay_149 : decode cX9_lay 149 = .ok (.putfield 143, 3) := by decide +kernel
theorem dX9_lay_152 : decode cX9_lay 152 = .ok (.aload_n 0, 1) := by decide +kernel
theorem dX9_lay_153 : decode cX9_lay 153 = .ok (.getfield 13, 3) := by decide +kernel
theorem dX9_lay_156 : decode cX9_lay 156 = .ok (.iconst 0, 1) := by decide +kernel
theorem dX9_lay_157 : decode cX9_lay 157 = .ok (.iaload, 1) := by decide +kernel
theorem dX9_lay_158 : decode cX9_lay 158 = .ok (.ireturn, 1) := by decide +kernel
theorem dX9_joined_0 : decode cX9_joined 0 = .ok (.iload_n 1, 1) := by decide +kernel
theorem dX9_joined_1 : decode cX9_joined 1 = .ok (.invokestatic 121, 3) := by decide +kernel
theorem dX9_joined_4 : decode cX9_joined 4 = .ok (.ifCond .eq 24, 3) := by decide +kernel
theorem dX9_joined_7 : decode cX9_joined 7 = .ok (.iload_n 2, 1) := by decide +kernel
theorem dX9_joined_8 : decode cX9_joined 8 = .ok (.invokestatic 121, 3) := by decide +kernel
theorem dX9_joined_11 : decode cX9_joined 11 = .ok (.ifCond .eq 17, 3) := by decide +kernel
theorem dX9_joined_14 : decode cX9_joined 14 = .ok (.aload_n 0, 1) := by decide +kernel
theorem dX9_joined_15 : decode cX9_joined 15 = .ok (.getfield 19, 3) := by decide +kernel
theorem dX9_joined_18 : decode cX9_joined 18 = .ok (.bipush 8, 2) := by decide +kernel
theorem dX9_joined_20 : decode cX9_joined 20 = .ok (.iload_n 1, 1) := by decide +kernel
theorem dX9_joined_21 : decode cX9_joined 21 = .ok (.imul, 1) := by decide +kernel
theorem dX9_joined_22 : decode cX9_joined 22 = .ok (.iload_n 2, 1) := by decide +kernel
theorem dX9_joined_23 : decode cX9_joined 23 = .ok (.iadd, 1) := by decide +kernel
theorem dX9_joined_24 : decode cX9_joined 24 = .ok (.iaload, 1) := by decide +kernel
theorem dX9_joined_25 : decode cX9_joined 25 = .ok (.goto 4, 3) := by decide +kernel
theorem dX9_joined_28 : decode cX9_joined 28 = .ok (.iconst (-1), 1) := by decide +kernel
theorem dX9_joined_29 : decode cX9_joined 29 = .ok (.ireturn, 1) := by decide +kernel
theorem dX9_isVerse_0 : decode cX9_isVerse 0 = .ok (.iload_n 0, 1) := by decide +kernel
theorem dX9_isVerse_1 : decode cX9_isVerse 1 = .ok (.i2l, 1) := by decide +kernel
theorem dX9_isVerse_2 : decode cX9_isVerse 2 = .ok (.lconst 0, 1) := by decide +kernel
theorem dX9_isVerse_3 : decode cX9_isVerse 3 = .ok (.ldc2_w 146, 3) := by decide +kernel
theorem dX9_isVerse_6 : decode cX9_isVerse 6 = .ok (.invokestatic 92, 3) := by decide +kernel
theorem dX9_isVerse_9 : decode cX9_isVerse 9 = .ok (.ireturn, 1) := by decide +kernel
theorem dX9_isWord_0 : decode cX9_isWord 0 = .ok (.iload_n 1, 1) := by decide +kernel
theorem dX9_isWord_1 : decode cX9_isWord 1 = .ok (.i2l, 1) := by decide +kernel
theorem dX9_isWord_2 : decode cX9_isWord 2 = .ok (.lconst 0, 1) := by decide +kernel
theorem dX9_isWord_3 : decode cX9_isWord 3 = .ok (.aload_n 0, 1) := by decide +kernel
theorem dX9_isWord_4 : decode cX9_isWord 4 = .ok (.getfield 13, 3) := by decide +kernel
theorem dX9_isWord_7 : decode cX9_isWord 7 = .ok (.iconst 0, 1) := by decide +kernel
theorem dX9_isWord_8 : decode cX9_isWord 8 = .ok (.iaload, 1) := by decide +kernel
theorem dX9_isWord_9 : decode cX9_isWord 9 = .ok (.iconst 1, 1) := by decide +kernel
theorem dX9_isWord_10 : decode cX9_isWord 10 = .ok (.isub, 1) := by decide +kernel
theorem dX9_isWord_11 : decode cX9_isWord 11 = .ok (.i2l, 1) := by decide +kernel
theorem dX9_isWord_12 : decode cX9_isWord 12 = .ok (.invokestatic 92, 3) := by decide +kernel
theorem dX9_isWord_15 : decode cX9_isWord 15 = .ok (.ireturn, 1) := by decide +kernel
theorem dX9_isWay_0 : decode cX9_isWay 0 = .ok (.iload_n 0, 1) := by decide +kernel
theorem dX9_isWay_1 : decode cX9_isWay 1 = .ok (.i2l, 1) := by decide +kernel
theorem dX9_isWay_2 : decode cX9_isWay 2 = .ok (.lconst 0, 1) := by decide +kernel
theorem dX9_isWay_3 : decode cX9_isWay 3 = .ok (.ldc2_w 128, 3) := by decide +kernel
theorem dX9_isWay_6 : decode cX9_isWay 6 = .ok (.invokestatic 92, 3) := by decide +kernel
theorem dX9_isWay_9 : decode cX9_isWay 9 = .ok (.ireturn, 1) := by decide +kernel
theorem dX9_isPlace_0 : decode cX9_isPlace 0 = .ok (.iload_n 0, 1) := by decide +kernel
theorem dX9_isPlace_1 : decode cX9_isPlace 1 = .ok (.i2l, 1) := by decide +kernel
theorem dX9_isPlace_2 : decode cX9_isPlace 2 = .ok (.lconst 0, 1) := by decide +kernel
theorem dX9_isPlace_3 : decode cX9_isPlace 3 = .ok (.ldc2_w 115, 3) := by decide +kernel
theorem dX9_isPlace_6 : decode cX9_isPlace 6 = .ok (.invokestatic 92, 3) := by decide +kernel
theorem dX9_isPlace_9 : decode cX9_isPlace 9 = .ok (.ireturn, 1) := by decide +kernel
theorem dX9_add_0 : decode cX9_add 0 = .ok (.iload_n 1, 1) := by decide +kernel
theorem dX9_add_1 : decode cX9_add 1 = .ok (.invokestatic 148, 3) := by decide +kernel
theorem dX9_add_4 : decode cX9_add 4 = .ok (.ifCond .eq 11, 3) := by decide +kernel
theorem dX9_add_7 : decode cX9_add 7 = .ok (.aload_n 0, 1) := by decide +kernel
theorem dX9_add_8 : decode cX9_add 8 = .ok (.iload_n 2, 1) := by decide +kernel
theorem dX9_add_9 : decode cX9_add 9 = .ok (.invokevirtual 151, 3) := by decide +kernel
theorem dX9_add_12 : decode cX9_add 12 = .ok (.ifCond .ne 5, 3) := by decide +kernel
theorem dX9_add_15 : decode cX9_add 15 = .ok (.iconst (-1), 1) := by decide +kernel
theorem dX9_add_16 : decode cX9_add 16 = .ok (.ireturn, 1) := by decide +kernel
theorem dX9_add_17 : decode cX9_add 17 = .ok (.aload_n 0, 1) := by decide +kernel
theorem dX9_add_18 : decode cX9_add 18 = .ok (.getfield 25, 3) := by decide +kernel
theorem dX9_add_21 : decode cX9_add 21 = .ok (.iload_n 1, 1) := by decide +kernel
theorem dX9_add_22 : decode cX9_add 22 = .ok (.iaload, 1) := by decide +kernel
theorem dX9_add_23 : decode cX9_add 23 = .ok (.bipush 8, 2) := by decide +kernel
theorem dX9_add_25 : decode cX9_add 25 = .ok (.if_icmp .ne 6, 3) := by decide +kernel
theorem dX9_add_28 : decode cX9_add 28 = .ok (.bipush (-3), 2) := by decide +kernel
theorem dX9_add_30 : decode cX9_add 30 = .ok (.ireturn, 1) := by decide +kernel
theorem dX9_add_31 : decode cX9_add 31 = .ok (.aload_n 0, 1) := by decide +kernel
theorem dX9_add_32 : decode cX9_add 32 = .ok (.getfield 28, 3) := by decide +kernel
theorem dX9_add_35 : decode cX9_add 35 = .ok (.bipush 8, 2) := by decide +kernel
theorem dX9_add_37 : decode cX9_add 37 = .ok (.iload_n 1, 1) := by decide +kernel
theorem dX9_add_38 : decode cX9_add 38 = .ok (.imul, 1) := by decide +kernel
theorem dX9_add_39 : decode cX9_add 39 = .ok (.aload_n 0, 1) := by decide +kernel
theorem dX9_add_40 : decode cX9_add 40 = .ok (.getfield 25, 3) := by decide +kernel
theorem dX9_add_43 : decode cX9_add 43 = .ok (.iload_n 1, 1) := by decide +kernel
theorem dX9_add_44 : decode cX9_add 44 = .ok (.iaload, 1) := by decide +kernel
theorem dX9_add_45 : decode cX9_add 45 = .ok (.iadd, 1) := by decide +kernel
theorem dX9_add_46 : decode cX9_add 46 = .ok (.iload_n 2, 1) := by decide +kernel
theorem dX9_add_47 : decode cX9_add 47 = .ok (.iastore, 1) := by decide +kernel
theorem dX9_add_48 : decode cX9_add 48 = .ok (.aload_n 0, 1) := by decide +kernel
theorem dX9_add_49 : decode cX9_add 49 = .ok (.getfield 25, 3) := by decide +kernel
theorem dX9_add_52 : decode cX9_add 52 = .ok (.iload_n 1, 1) := by decide +kernel
theorem dX9_add_53 : decode cX9_add 53 = .ok (.dup2, 1) := by decide +kernel
theorem dX9_add_54 : decode cX9_add 54 = .ok (.iaload, 1) := by decide +kernel
theorem dX9_add_55 : decode cX9_add 55 = .ok (.iconst 1, 1) := by decide +kernel
theorem dX9_add_56 : decode cX9_add 56 = .ok (.iadd, 1) := by decide +kernel
theorem dX9_add_57 : decode cX9_add 57 = .ok (.iastore, 1) := by decide +kernel
theorem dX9_add_58 : decode cX9_add 58 = .ok (.aload_n 0, 1) := by decide +kernel
theorem dX9_add_59 : decode cX9_add 59 = .ok (.getfield 25, 3) := by decide +kernel
theorem dX9_add_62 : decode cX9_add 62 = .ok (.iload_n 1, 1) := by decide +kernel
theorem dX9_add_63 : decode cX9_add 63 = .ok (.iaload, 1) := by decide +kernel
theorem dX9_add_64 : decode cX9_add 64 = .ok (.ireturn, 1) := by decide +kernel
theorem dX9_clear_0 : decode cX9_clear 0 = .ok (.iload_n 1, 1) := by decide +kernel
theorem dX9_clear_1 : decode cX9_clear 1 = .ok (.invokestatic 148, 3) := by decide +kernel
theorem dX9_clear_4 : decode cX9_clear 4 = .ok (.ifCond .ne 5, 3) := by decide +kernel
theorem dX9_clear_7 : decode cX9_clear 7 = .ok (.iconst (-1), 1) := by decide +kernel
theorem dX9_clear_8 : decode cX9_clear 8 = .ok (.ireturn, 1) := by decide +kernel
theorem dX9_clear_9 : decode cX9_clear 9 = .ok (.aload_n 0, 1) := by decide +kernel
theorem dX9_clear_10 : decode cX9_clear 10 = .ok (.getfield 25, 3) := by decide +kernel
theorem dX9_clear_13 : decode cX9_clear 13 = .ok (.iload_n 1, 1) := by decide +kernel
theorem dX9_clear_14 : decode cX9_clear 14 = .ok (.iaload, 1) := by decide +kernel
theorem dX9_clear_15 : decode cX9_clear 15 = .ok (.istore_n 2, 1) := by decide +kernel
theorem dX9_clear_16 : decode cX9_clear 16 = .ok (.aload_n 0, 1) := by decide +kernel
theorem dX9_clear_17 : decode cX9_clear 17 = .ok (.getfield 25, 3) := by decide +kernel
theorem dX9_clear_20 : decode cX9_clear 20 = .ok (.iload_n 1, 1) := by decide +kernel
theorem dX9_clear_21 : decode cX9_clear 21 = .ok (.iconst 0, 1) := by decide +kernel
theorem dX9_clear_22 : decode cX9_clear 22 = .ok (.iastore, 1) := by decide +kernel
theorem dX9_clear_23 : decode cX9_clear 23 = .ok (.iload_n 2, 1) := by decide +kernel
theorem dX9_clear_24 : decode cX9_clear 24 = .ok (.ireturn, 1) := by decide +kernel
theorem dX9_word_0 : decode cX9_word 0 = .ok (.iload_n 1, 1) := by decide +kernel
theorem dX9_word_1 : decode cX9_word 1 = .ok (.invokestatic 148, 3) := by decide +kernel
theorem dX9_word_4 : decode cX9_word 4 = .ok (.ifCond .eq 10, 3) := by decide +kernel
theorem dX9_word_7 : decode cX9_word 7 = .ok (.iload_n 2, 1) := by decide +kernel
theorem dX9_word_8 : decode cX9_word 8 = .ok (.invokestatic 154, 3) := by decide +kernel
theorem dX9_word_11 : decode cX9_word 11 = .ok (.ifCond .ne 5, 3) := by decide +kernel
theorem dX9_word_14 : decode cX9_word 14 = .ok (.iconst (-1), 1) := by decide +kernel
theorem dX9_word_15 : decode cX9_word 15 = .ok (.ireturn, 1) := by decide +kernel
theorem dX9_word_16 : decode cX9_word 16 = .ok (.iload_n 2, 1) := by decide +kernel
theorem dX9_word_17 : decode cX9_word 17 = .ok (.aload_n 0, 1) := by decide +kernel
theorem dX9_word_18 : decode cX9_word 18 = .ok (.getfield 25, 3) := by decide +kernel
theorem dX9_word_21 : decode cX9_word 21 = .ok (.iload_n 1, 1) := by decide +kernel
theorem dX9_word_22 : decode cX9_word 22 = .ok (.iaload, 1) := by decide +kernel
theorem dX9_word_23 : decode cX9_word 23 = .ok (.if_icmp .ge 17, 3) := by decide +kernel
theorem dX9_word_26 : decode cX9_word 26 = .ok (.aload_n 0, 1) := by decide +kernel
theorem dX9_word_27 : decode cX9_word 27 = .ok (.getfield 28, 3) := by decide +kernel
theorem dX9_word_30 : decode cX9_word 30 = .ok (.bipush 8, 2) := by decide +kernel
theorem dX9_word_32 : decode cX9_word 32 = .ok (.iload_n 1, 1) := by decide +kernel
theorem dX9_word_33 : decode cX9_word 33 = .ok (.imul, 1) := by decide +kernel
theorem dX9_word_34 : decode cX9_word 34 = .ok (.iload_n 2, 1) := by decide +kernel
theorem dX9_word_35 : decode cX9_word 35 = .ok (.iadd, 1) := by decide +kernel
theorem dX9_word_36 : decode cX9_word 36 = .ok (.iaload, 1) := by decide +kernel
theorem dX9_word_37 : decode cX9_word 37 = .ok (.goto 5, 3) := by decide +kernel
theorem dX9_word_40 : decode cX9_word 40 = .ok (.bipush (-4), 2) := by decide +kernel
theorem dX9_word_42 : decode cX9_word 42 = .ok (.ireturn, 1) := by decide +kernel
theorem dX9_sayPlace_0 : decode cX9_sayPlace 0 = .ok (.aload_n 0, 1) := by decide +kernel
theorem dX9_sayPlace_1 : decode cX9_sayPlace 1 = .ok (.getfield 52, 3) := by decide +kernel
theorem dX9_sayPlace_4 : decode cX9_sayPlace 4 = .ok (.aload_n 0, 1) := by decide +kernel
theorem dX9_sayPlace_5 : decode cX9_sayPlace 5 = .ok (.getfield 157, 3) := by decide +kernel
theorem dX9_sayPlace_8 : decode cX9_sayPlace 8 = .ok (.aload_n 0, 1) := by decide +kernel
theorem dX9_sayPlace_9 : decode cX9_sayPlace 9 = .ok (.getfield 160, 3) := by decide +kernel
theorem dX9_sayPlace_12 : decode cX9_sayPlace 12 = .ok (.ifCond .eq 8, 3) := by decide +kernel
theorem dX9_sayPlace_15 : decode cX9_sayPlace 15 = .ok (.bipush (-4), 2) := by decide +kernel
theorem dX9_sayPlace_17 : decode cX9_sayPlace 17 = .ok (.goto 14, 3) := by decide +kernel
theorem dX9_sayPlace_20 : decode cX9_sayPlace 20 = .ok (.aload_n 0, 1) := by decide +kernel
theorem dX9_sayPlace_21 : decode cX9_sayPlace 21 = .ok (.getfield 55, 3) := by decide +kernel
theorem dX9_sayPlace_24 : decode cX9_sayPlace 24 = .ok (.aload_n 0, 1) := by decide +kernel
theorem dX9_sayPlace_25 : decode cX9_sayPlace 25 = .ok (.getfield 157, 3) := by decide +kernel
theorem dX9_sayPlace_28 : decode cX9_sayPlace 28 = .ok (.iconst 1, 1) := by decide +kernel
theorem dX9_sayPlace_29 : decode cX9_sayPlace 29 = .ok (.isub, 1) := by decide +kernel
theorem dX9_sayPlace_30 : decode cX9_sayPlace 30 = .ok (.iaload, 1) := by decide +kernel
theorem dX9_sayPlace_31 : decode cX9_sayPlace 31 = .ok (.iastore, 1) := by decide +kernel
theorem dX9_sayPlace_32 : decode cX9_sayPlace 32 = .ok (.aload_n 0, 1) := by decide +kernel
theorem dX9_sayPlace_33 : decode cX9_sayPlace 33 = .ok (.getfield 55, 3) := by decide +kernel
theorem dX9_sayPlace_36 : decode cX9_sayPlace 36 = .ok (.aload_n 0, 1) := by decide +kernel
theorem dX9_sayPlace_37 : decode cX9_sayPlace 37 = .ok (.getfield 157, 3) := by decide +kernel
theorem dX9_sayPlace_40 : decode cX9_sayPlace 40 = .ok (.iload_n 1, 1) := by decide +kernel
theorem dX9_sayPlace_41 : decode cX9_sayPlace 41 = .ok (.iastore, 1) := by decide +kernel
theorem dX9_sayPlace_42 : decode cX9_sayPlace 42 = .ok (.aload_n 0, 1) := by decide +kernel
theorem dX9_sayPlace_43 : decode cX9_sayPlace 43 = .ok (.getfield 58, 3) := by decide +kernel
theorem dX9_sayPlace_46 : decode cX9_sayPlace 46 = .ok (.aload_n 0, 1) := by decide +kernel
theorem dX9_sayPlace_47 : decode cX9_sayPlace 47 = .ok (.getfield 157, 3) := by decide +kernel
theorem dX9_sayPlace_50 : decode cX9_sayPlace 50 = .ok (.bipush (-4), 2) := by decide +kernel
theorem dX9_sayPlace_52 : decode cX9_sayPlace 52 = .ok (.iastore, 1) := by decide +kernel
theorem dX9_sayPlace_53 : decode cX9_sayPlace 53 = .ok (.aload_n 0, 1) := by decide +kernel
theorem dX9_sayPlace_54 : decode cX9_sayPlace 54 = .ok (.getfield 160, 3) := by decide +kernel
theorem dX9_sayPlace_57 : decode cX9_sayPlace 57 = .ok (.ifCond .ne 15, 3) := by decide +kernel
theorem dX9_sayPlace_60 : decode cX9_sayPlace 60 = .ok (.aload_n 0, 1) := by decide +kernel
theorem dX9_sayPlace_61 : decode cX9_sayPlace 61 = .ok (.getfield 58, 3) := by decide +kernel
theorem dX9_sayPlace_64 : decode cX9_sayPlace 64 = .ok (.aload_n 0, 1) := by decide +kernel
theorem dX9_sayPlace_65 : decode cX9_sayPlace 65 = .ok (.getfield 157, 3) := by decide +kernel
theorem dX9_sayPlace_68 : decode cX9_sayPlace 68 = .ok (.iconst 1, 1) := by decide +kernel
theorem dX9_sayPlace_69 : decode cX9_sayPlace 69 = .ok (.isub, 1) := by decide +kernel
theorem dX9_sayPlace_70 : decode cX9_sayPlace 70 = .ok (.iload_n 1, 1) := by decide +kernel
theorem dX9_sayPlace_71 : decode cX9_sayPlace 71 = .ok (.iastore, 1) := by decide +kernel
theorem dX9_sayPlace_72 : decode cX9_sayPlace 72 = .ok (.aload_n 0, 1) := by decide +kernel
theorem dX9_sayPlace_73 : decode cX9_sayPlace 73 = .ok (.iconst 0, 1) := by decide +kernel
theorem dX9_sayPlace_74 : decode cX9_sayPlace 74 = .ok (.putfield 160, 3) := by decide +kernel
theorem dX9_sayPlace_77 : decode cX9_sayPlace 77 = .ok (.aload_n 0, 1) := by decide +kernel
theorem dX9_sayPlace_78 : decode cX9_sayPlace 78 = .ok (.dup, 1) := by decide +kernel
theorem dX9_sayPlace_79 : decode cX9_sayPlace 79 = .ok (.getfield 157, 3) := by decide +kernel
theorem dX9_sayPlace_82 : decode cX9_sayPlace 82 = .ok (.iconst 1, 1) := by decide +kernel
theorem dX9_sayPlace_83 : decode cX9_sayPlace 83 = .ok (.iadd, 1) := by decide +kernel
theorem dX9_sayPlace_84 : decode cX9_sayPlace 84 = .ok (.putfield 157, 3) := by decide +kernel
theorem dX9_sayPlace_87 : decode cX9_sayPlace 87 = .ok (.return_, 1) := by decide +kernel
theorem dX9_sayPair_0 : decode cX9_sayPair 0 = .ok (.aload_n 0, 1) := by decide +kernel
theorem dX9_sayPair_1 : decode cX9_sayPair 1 = .ok (.iload_n 1, 1) := by decide +kernel
theorem dX9_sayPair_2 : decode cX9_sayPair 2 = .ok (.invokevirtual 164, 3) := by decide +kernel
theorem dX9_sayPair_5 : decode cX9_sayPair 5 = .ok (.aload_n 0, 1) := by decide +kernel
theorem dX9_sayPair_6 : decode cX9_sayPair 6 = .ok (.iload_n 1, 1) := by decide +kernel
theorem dX9_sayPair_7 : decode cX9_sayPair 7 = .ok (.iconst 1, 1) := by decide +kernel
theorem dX9_sayPair_8 : decode cX9_sayPair 8 = .ok (.iadd, 1) := by decide +kernel
theorem dX9_sayPair_9 : decode cX9_sayPair 9 = .ok (.invokevirtual 164, 3) := by decide +kernel
theorem dX9_sayPair_12 : decode cX9_sayPair 12 = .ok (.return_, 1) := by decide +kernel
theorem dX9_sayBack_0 : decode cX9_sayBack 0 = .ok (.aload_n 0, 1) := by decide +kernel
theorem dX9_sayBack_1 : decode cX9_sayBack 1 = .ok (.iload_n 1, 1) := by decide +kernel
theorem dX9_sayBack_2 : decode cX9_sayBack 2 = .ok (.iconst 1, 1) := by decide +kernel
theorem dX9_sayBack_3 : decode cX9_sayBack 3 = .ok (.iadd, 1) := by decide +kernel
theorem dX9_sayBack_4 : decode cX9_sayBack 4 = .ok (.invokevirtual 164, 3) := by decide +kernel
theorem dX9_sayBack_7 : decode cX9_sayBack 7 = .ok (.aload_n 0, 1) := by decide +kernel
theorem dX9_sayBack_8 : decode cX9_sayBack 8 = .ok (.iload_n 1, 1) := by decide +kernel
theorem dX9_sayBack_9 : decode cX9_sayBack 9 = .ok (.invokevirtual 164, 3) := by decide +kernel
theorem dX9_sayBack_12 : decode cX9_sayBack 12 = .ok (.return_, 1) := by decide +kernel
theorem dX9_braid_0 : decode cX9_braid 0 = .ok (.aload_n 0, 1) := by decide +kernel
theorem dX9_braid_1 : decode cX9_braid 1 = .ok (.iload_n 1, 1) := by decide +kernel
theorem dX9_braid_2 : decode cX9_braid 2 = .ok (.invokevirtual 167, 3) := by decide +kernel
theorem dX9_braid_5 : decode cX9_braid 5 = .ok (.aload_n 0, 1) := by decide +kernel
theorem dX9_braid_6 : decode cX9_braid 6 = .ok (.iload_n 1, 1) := by decide +kernel
theorem dX9_braid_7 : decode cX9_braid 7 = .ok (.invokevirtual 170, 3) := by decide +kernel
theorem dX9_braid_10 : decode cX9_braid 10 = .ok (.aload_n 0, 1) := by decide +kernel
theorem dX9_braid_11 : decode cX9_braid 11 = .ok (.iload_n 1, 1) := by decide +kernel
theorem dX9_braid_12 : decode cX9_braid 12 = .ok (.invokevirtual 167, 3) := by decide +kernel
theorem dX9_braid_15 : decode cX9_braid 15 = .ok (.return_, 1) := by decide +kernel
theorem dX9_layWay_0 : decode cX9_layWay 0 = .ok (.iconst 0, 1) := by decide +kernel
theorem dX9_layWay_1 : decode cX9_layWay 1 = .ok (.istore_n 3, 1) := by decide +kernel
theorem dX9_layWay_2 : decode cX9_layWay 2 = .ok (.iload_n 3, 1) := by decide +kernel
theorem dX9_layWay_3 : decode cX9_layWay 3 = .ok (.iload_n 2, 1) := by decide +kernel
theorem dX9_layWay_4 : decode cX9_layWay 4 = .ok (.if_icmp .ge 164, 3) := by decide +kernel
theorem dX9_layWay_7 : decode cX9_layWay 7 = .ok (.iload_n 3, 1) := by decide +kernel
theorem dX9_layWay_8 : decode cX9_layWay 8 = .ok (.iload_n 2, 1) := by decide +kernel
theorem dX9_layWay_9 : decode cX9_layWay 9 = .ok (.iconst 1, 1) := by decide +kernel
theorem dX9_layWay_10 : decode cX9_layWay 10 = .ok (.isub, 1) := by decide +kernel
theorem dX9_layWay_11 : decode cX9_layWay 11 = .ok (.if_icmp .ne 7, 3) := by decide +kernel
theorem dX9_layWay_14 : decode cX9_layWay 14 = .ok (.iconst 1, 1) := by decide +kernel
theorem dX9_layWay_15 : decode cX9_layWay 15 = .ok (.goto 4, 3) := by decide +kernel
theorem dX9_layWay_18 : decode cX9_layWay 18 = .ok (.iconst 0, 1) := by decide +kernel
theorem dX9_layWay_19 : decode cX9_layWay 19 = .ok (.istore 4, 2) := by decide +kernel
theorem dX9_layWay_21 : decode cX9_layWay 21 = .ok (.aload_n 0, 1) := by decide +kernel
theorem dX9_layWay_22 : decode cX9_layWay 22 = .ok (.iload_n 1, 1) := by decide +kernel
theorem dX9_layWay_23 : decode cX9_layWay 23 = .ok (.ifCond .ne 7, 3) := by decide +kernel
theorem dX9_layWay_26 : decode cX9_layWay 26 = .ok (.iload_n 3, 1) := by decide +kernel
theorem dX9_layWay_27 : decode cX9_layWay 27 = .ok (.ifCond .ne 7, 3) := by decide +kernel
theorem dX9_layWay_30 : decode cX9_layWay 30 = .ok (.iconst 1, 1) := by decide +kernel
theorem dX9_layWay_31 : decode cX9_layWay 31 = .ok (.goto 4, 3) := by decide +kernel
theorem dX9_layWay_34 : decode cX9_layWay 34 = .ok (.iconst 0, 1) := by decide +kernel
theorem dX9_layWay_35 : decode cX9_layWay 35 = .ok (.putfield 160, 3) := by decide +kernel
theorem dX9_layWay_38 : decode cX9_layWay 38 = .ok (.iload_n 1, 1) := by decide +kernel
theorem dX9_layWay_39 : decode cX9_layWay 39 = .ok (.iconst 2, 1) := by decide +kernel
theorem dX9_layWay_40 : decode cX9_layWay 40 = .ok (.if_icmp .lt 8, 3) := by decide +kernel
theorem dX9_layWay_43 : decode cX9_layWay 43 = .ok (.iload_n 2, 1) := by decide +kernel
theorem dX9_layWay_44 : decode cX9_layWay 44 = .ok (.iconst 1, 1) := by decide +kernel
theorem dX9_layWay_45 : decode cX9_layWay 45 = .ok (.if_icmp .ne 11, 3) := by decide +kernel
theorem dX9_layWay_48 : decode cX9_layWay 48 = .ok (.aload_n 0, 1) := by decide +kernel
theorem dX9_layWay_49 : decode cX9_layWay 49 = .ok (.iload_n 3, 1) := by decide +kernel
theorem dX9_layWay_50 : decode cX9_layWay 50 = .ok (.invokevirtual 164, 3) := by decide +kernel
theorem dX9_layWay_53 : decode cX9_layWay 53 = .ok (.goto 109, 3) := by decide +kernel
theorem dX9_layWay_56 : decode cX9_layWay 56 = .ok (.iload_n 1, 1) := by decide +kernel
theorem dX9_layWay_57 : decode cX9_layWay 57 = .ok (.iconst 2, 1) := by decide +kernel
theorem dX9_layWay_58 : decode cX9_layWay 58 = .ok (.if_icmp .ne 16, 3) := by decide +kernel
theorem dX9_layWay_61 : decode cX9_layWay 61 = .ok (.iload 4, 2) := by decide +kernel
theorem dX9_layWay_63 : decode cX9_layWay 63 = .ok (.ifCond .ne 11, 3) := by decide +kernel
theorem dX9_layWay_66 : decode cX9_layWay 66 = .ok (.aload_n 0, 1) := by decide +kernel
theorem dX9_layWay_67 : decode cX9_layWay 67 = .ok (.iload_n 3, 1) := by decide +kernel
theorem dX9_layWay_68 : decode cX9_layWay 68 = .ok (.invokevirtual 167, 3) := by decide +kernel
theorem dX9_layWay_71 : decode cX9_layWay 71 = .ok (.goto 91, 3) := by decide +kernel
theorem dX9_layWay_74 : decode cX9_layWay 74 = .ok (.iload_n 1, 1) := by decide +kernel
theorem dX9_layWay_75 : decode cX9_layWay 75 = .ok (.iconst 3, 1) := by decide +kernel
theorem dX9_layWay_76 : decode cX9_layWay 76 = .ok (.if_icmp .ne 8, 3) := by decide +kernel
theorem dX9_layWay_79 : decode cX9_layWay 79 = .ok (.iload 4, 2) := by decide +kernel
theorem dX9_layWay_81 : decode cX9_layWay 81 = .ok (.ifCond .eq 15, 3) := by decide +kernel
theorem dX9_layWay_84 : decode cX9_layWay 84 = .ok (.iload_n 1, 1) := by decide +kernel
theorem dX9_layWay_85 : decode cX9_layWay 85 = .ok (.iconst 4, 1) := by decide +kernel
theorem dX9_layWay_86 : decode cX9_layWay 86 = .ok (.if_icmp .ne 18, 3) := by decide +kernel
theorem dX9_layWay_89 : decode cX9_layWay 89 = .ok (.iload_n 3, 1) := by decide +kernel
theorem dX9_layWay_90 : decode cX9_layWay 90 = .ok (.iload_n 2, 1) := by decide +kernel
theorem dX9_layWay_91 : decode cX9_layWay 91 = .ok (.iconst 2, 1) := by decide +kernel
theorem dX9_layWay_92 : decode cX9_layWay 92 = .ok (.isub, 1) := by decide +kernel
theorem dX9_layWay_93 : decode cX9_layWay 93 = .ok (.if_icmp .ne 11, 3) := by decide +kernel
theorem dX9_layWay_96 : decode cX9_layWay 96 = .ok (.aload_n 0, 1) := by decide +kernel
theorem dX9_layWay_97 : decode cX9_layWay 97 = .ok (.iload_n 3, 1) := by decide +kernel
theorem dX9_layWay_98 : decode cX9_layWay 98 = .ok (.invokevirtual 173, 3) := by decide +kernel
theorem dX9_layWay_101 : decode cX9_layWay 101 = .ok (.goto 61, 3) := by decide +kernel
theorem dX9_layWay_104 : decode cX9_layWay 104 = .ok (.iload_n 1, 1) := by decide +kernel
theorem dX9_layWay_105 : decode cX9_layWay 105 = .ok (.iconst 4, 1) := by decide +kernel
theorem dX9_layWay_106 : decode cX9_layWay 106 = .ok (.if_icmp .ne 56, 3) := by decide +kernel
theorem dX9_layWay_109 : decode cX9_layWay 109 = .ok (.iload_n 3, 1) := by decide +kernel
theorem dX9_layWay_110 : decode cX9_layWay 110 = .ok (.iload_n 2, 1) := by decide +kernel
theorem dX9_layWay_111 : decode cX9_layWay 111 = .ok (.iconst 2, 1) := by decide +kernel
theorem dX9_layWay_112 : decode cX9_layWay 112 = .ok (.isub, 1) := by decide +kernel
theorem dX9_layWay_113 : decode cX9_layWay 113 = .ok (.if_icmp .ge 49, 3) := by decide +kernel
theorem dX9_layWay_116 : decode cX9_layWay 116 = .ok (.aload_n 0, 1) := by decide +kernel
theorem dX9_layWay_117 : decode cX9_layWay 117 = .ok (.iload_n 3, 1) := by decide +kernel
theorem dX9_layWay_118 : decode cX9_layWay 118 = .ok (.invokevirtual 167, 3) := by decide +kernel
theorem dX9_layWay_121 : decode cX9_layWay 121 = .ok (.aload_n 0, 1) := by decide +kernel
theorem dX9_layWay_122 : decode cX9_layWay 122 = .ok (.iload_n 3, 1) := by decide +kernel
theorem dX9_layWay_123 : decode cX9_layWay 123 = .ok (.invokevirtual 170, 3) := by decide +kernel
theorem dX9_layWay_126 : decode cX9_layWay 126 = .ok (.aload_n 0, 1) := by decide +kernel
theorem dX9_layWay_127 : decode cX9_layWay 127 = .ok (.iload_n 3, 1) := by decide +kernel
theorem dX9_layWay_128 : decode cX9_layWay 128 = .ok (.invokevirtual 167, 3) := by decide +kernel
theorem dX9_layWay_131 : decode cX9_layWay 131 = .ok (.aload_n 0, 1) := by decide +kernel
theorem dX9_layWay_132 : decode cX9_layWay 132 = .ok (.iload_n 3, 1) := by decide +kernel
theorem dX9_layWay_133 : decode cX9_layWay 133 = .ok (.iconst 2, 1) := by decide +kernel
theorem dX9_layWay_134 : decode cX9_layWay 134 = .ok (.iadd, 1) := by decide +kernel
theorem dX9_layWay_135 : decode cX9_layWay 135 = .ok (.invokevirtual 164, 3) := by decide +kernel
theorem dX9_layWay_138 : decode cX9_layWay 138 = .ok (.aload_n 0, 1) := by decide +kernel
theorem dX9_layWay_139 : decode cX9_layWay 139 = .ok (.iload_n 3, 1) := by decide +kernel
theorem dX9_layWay_140 : decode cX9_layWay 140 = .ok (.iconst 2, 1) := by decide +kernel
theorem dX9_layWay_141 : decode cX9_layWay 141 = .ok (.iadd, 1) := by decide +kernel
theorem dX9_layWay_142 : decode cX9_layWay 142 = .ok (.invokevirtual 164, 3) := by decide +kernel
theorem dX9_layWay_145 : decode cX9_layWay 145 = .ok (.aload_n 0, 1) := by decide +kernel
theorem dX9_layWay_146 : decode cX9_layWay 146 = .ok (.iload_n 3, 1) := by decide +kernel
theorem dX9_layWay_147 : decode cX9_layWay 147 = .ok (.invokevirtual 170, 3) := by decide +kernel
theorem dX9_layWay_150 : decode cX9_layWay 150 = .ok (.aload_n 0, 1) := by decide +kernel
theorem dX9_layWay_151 : decode cX9_layWay 151 = .ok (.iload_n 3, 1) := by decide +kernel
theorem dX9_layWay_152 : decode cX9_layWay 152 = .ok (.invokevirtual 167, 3) := by decide +kernel
theorem dX9_layWay_155 : decode cX9_layWay 155 = .ok (.aload_n 0, 1) := by decide +kernel
theorem dX9_layWay_156 : decode cX9_layWay 156 = .ok (.iload_n 3, 1) := by decide +kernel
theorem dX9_layWay_157 : decode cX9_layWay 157 = .ok (.iconst 2, 1) := by decide +kernel
theorem dX9_layWay_158 : decode cX9_layWay 158 = .ok (.iadd, 1) := by decide +kernel
theorem dX9_layWay_159 : decode cX9_layWay 159 = .ok (.invokevirtual 164, 3) := by decide +kernel
theorem dX9_layWay_162 : decode cX9_layWay 162 = .ok (.iinc 3 1, 3) := by decide +kernel
theorem dX9_layWay_165 : decode cX9_layWay 165 = .ok (.goto (-163), 3) := by decide +kernel
theorem dX9_layWay_168 : decode cX9_layWay 168 = .ok (.return_, 1) := by decide +kernel
theorem dX9_layWays_0 : decode cX9_layWays 0 = .ok (.aload_n 0, 1) := by decide +kernel
theorem dX9_layWays_1 : decode cX9_layWays 1 = .ok (.iconst 0, 1) := by decide +kernel
theorem dX9_layWays_2 : decode cX9_layWays 2 = .ok (.putfield 157, 3) := by decide +kernel
theorem dX9_layWays_5 : decode cX9_layWays 5 = .ok (.iconst 0, 1) := by decide +kernel
theorem dX9_layWays_6 : decode cX9_layWays 6 = .ok (.istore_n 3, 1) := by decide +kernel
theorem dX9_layWays_7 : decode cX9_layWays 7 = .ok (.iload_n 3, 1) := by decide +kernel
theorem dX9_layWays_8 : decode cX9_layWays 8 = .ok (.iconst 5, 1) := by decide +kernel
theorem dX9_layWays_9 : decode cX9_layWays 9 = .ok (.if_icmp .ge 23, 3) := by decide +kernel
theorem dX9_layWays_12 : decode cX9_layWays 12 = .ok (.iload_n 1, 1) := by decide +kernel
theorem dX9_layWays_13 : decode cX9_layWays 13 = .ok (.iload_n 3, 1) := by decide +kernel
theorem dX9_layWays_14 : decode cX9_layWays 14 = .ok (.invokestatic 176, 3) := by decide +kernel
theorem dX9_layWays_17 : decode cX9_layWays 17 = .ok (.ifCond .eq 9, 3) := by decide +kernel
theorem dX9_layWays_20 : decode cX9_layWays 20 = .ok (.aload_n 0, 1) := by decide +kernel
theorem dX9_layWays_21 : decode cX9_layWays 21 = .ok (.iload_n 3, 1) := by decide +kernel
theorem dX9_layWays_22 : decode cX9_layWays 22 = .ok (.iload_n 2, 1) := by decide +kernel
theorem dX9_layWays_23 : decode cX9_layWays 23 = .ok (.invokevirtual 180, 3) := by decide +kernel
theorem dX9_layWays_26 : decode cX9_layWays 26 = .ok (.iinc 3 1, 3) := by decide +kernel
theorem dX9_layWays_29 : decode cX9_layWays 29 = .ok (.goto (-22), 3) := by decide +kernel
theorem dX9_layWays_32 : decode cX9_layWays 32 = .ok (.iconst 0, 1) := by decide +kernel
theorem dX9_layWays_33 : decode cX9_layWays 33 = .ok (.istore_n 3, 1) := by decide +kernel
theorem dX9_layWays_34 : decode cX9_layWays 34 = .ok (.iload_n 3, 1) := by decide +kernel
theorem dX9_layWays_35 : decode cX9_layWays 35 = .ok (.bipush 8, 2) := by decide +kernel
theorem dX9_layWays_37 : decode cX9_layWays 37 = .ok (.if_icmp .ge 17, 3) := by decide +kernel
theorem dX9_layWays_40 : decode cX9_layWays 40 = .ok (.aload_n 0, 1) := by decide +kernel
theorem dX9_layWays_41 : decode cX9_layWays 41 = .ok (.getfield 61, 3) := by decide +kernel
theorem dX9_layWays_44 : decode cX9_layWays 44 = .ok (.iload_n 3, 1) := by decide +kernel
theorem dX9_layWays_45 : decode cX9_layWays 45 = .ok (.bipush (-4), 2) := by decide +kernel
theorem dX9_layWays_47 : decode cX9_layWays 47 = .ok (.iastore, 1) := by decide +kernel
theorem dX9_layWays_48 : decode cX9_layWays 48 = .ok (.iinc 3 1, 3) := by decide +kernel
theorem dX9_layWays_51 : decode cX9_layWays 51 = .ok (.goto (-17), 3) := by decide +kernel
theorem dX9_layWays_54 : decode cX9_layWays 54 = .ok (.iconst 0, 1) := by decide +kernel
theorem dX9_layWays_55 : decode cX9_layWays 55 = .ok (.istore_n 3, 1) := by decide +kernel
theorem dX9_layWays_56 : decode cX9_layWays 56 = .ok (.iload_n 3, 1) := by decide +kernel
theorem dX9_layWays_57 : decode cX9_layWays 57 = .ok (.aload_n 0, 1) := by decide +kernel
theorem dX9_layWays_58 : decode cX9_layWays 58 = .ok (.getfield 157, 3) := by decide +kernel
theorem dX9_layWays_61 : decode cX9_layWays 61 = .ok (.if_icmp .ge 56, 3) := by decide +kernel
theorem dX9_layWays_64 : decode cX9_layWays 64 = .ok (.aload_n 0, 1) := by decide +kernel
theorem dX9_layWays_65 : decode cX9_layWays 65 = .ok (.getfield 55, 3) := by decide +kernel
theorem dX9_layWays_68 : decode cX9_layWays 68 = .ok (.iload_n 3, 1) := by decide +kernel
theorem dX9_layWays_69 : decode cX9_layWays 69 = .ok (.iaload, 1) := by decide +kernel
theorem dX9_layWays_70 : decode cX9_layWays 70 = .ok (.aload_n 0, 1) := by decide +kernel
theorem dX9_layWays_71 : decode cX9_layWays 71 = .ok (.getfield 52, 3) := by decide +kernel
theorem dX9_layWays_74 : decode cX9_layWays 74 = .ok (.iload_n 3, 1) := by decide +kernel
theorem dX9_layWays_75 : decode cX9_layWays 75 = .ok (.iaload, 1) := by decide +kernel
theorem dX9_layWays_76 : decode cX9_layWays 76 = .ok (.aload_n 0, 1) := by decide +kernel
theorem dX9_layWays_77 : decode cX9_layWays 77 = .ok (.getfield 58, 3) := by decide +kernel
theorem dX9_layWays_80 : decode cX9_layWays 80 = .ok (.iload_n 3, 1) := by decide +kernel
theorem dX9_layWays_81 : decode cX9_layWays 81 = .ok (.iaload, 1) := by decide +kernel
theorem dX9_layWays_82 : decode cX9_layWays 82 = .ok (.invokestatic 184, 3) := by decide +kernel
theorem dX9_layWays_85 : decode cX9_layWays 85 = .ok (.invokestatic 184, 3) := by decide +kernel
theorem dX9_layWays_88 : decode cX9_layWays 88 = .ok (.istore 4, 2) := by decide +kernel
theorem dX9_layWays_90 : decode cX9_layWays 90 = .ok (.aload_n 0, 1) := by decide +kernel
theorem dX9_layWays_91 : decode cX9_layWays 91 = .ok (.getfield 64, 3) := by decide +kernel
theorem dX9_layWays_94 : decode cX9_layWays 94 = .ok (.iload_n 3, 1) := by decide +kernel
theorem dX9_layWays_95 : decode cX9_layWays 95 = .ok (.aload_n 0, 1) := by decide +kernel
theorem dX9_layWays_96 : decode cX9_layWays 96 = .ok (.getfield 61, 3) := by decide +kernel
theorem dX9_layWays_99 : decode cX9_layWays 99 = .ok (.iload 4, 2) := by decide +kernel
theorem dX9_layWays_101 : decode cX9_layWays 101 = .ok (.iaload, 1) := by decide +kernel
theorem dX9_layWays_102 : decode cX9_layWays 102 = .ok (.iastore, 1) := by decide +kernel
theorem dX9_layWays_103 : decode cX9_layWays 103 = .ok (.aload_n 0, 1) := by decide +kernel
theorem dX9_layWays_104 : decode cX9_layWays 104 = .ok (.getfield 61, 3) := by decide +kernel
theorem dX9_layWays_107 : decode cX9_layWays 107 = .ok (.iload 4, 2) := by decide +kernel
theorem dX9_layWays_109 : decode cX9_layWays 109 = .ok (.iload_n 3, 1) := by decide +kernel
theorem dX9_layWays_110 : decode cX9_layWays 110 = .ok (.iastore, 1) := by decide +kernel
theorem dX9_layWays_111 : decode cX9_layWays 111 = .ok (.iinc 3 1, 3) := by decide +kernel
theorem dX9_layWays_114 : decode cX9_layWays 114 = .ok (.goto (-58), 3) := by decide +kernel
theorem dX9_layWays_117 : decode cX9_layWays 117 = .ok (.return_, 1) := by decide +kernel
theorem dX9_tokenOf_0 : decode cX9_tokenOf 0 = .ok (.aload_n 0, 1) := by decide +kernel
theorem dX9_tokenOf_1 : decode cX9_tokenOf 1 = .ok (.getfield 16, 3) := by decide +kernel
theorem dX9_tokenOf_4 : decode cX9_tokenOf 4 = .ok (.iconst 3, 1) := by decide +kernel
theorem dX9_tokenOf_5 : decode cX9_tokenOf 5 = .ok (.iload_n 2, 1) := by decide +kernel
theorem dX9_tokenOf_6 : decode cX9_tokenOf 6 = .ok (.imul, 1) := by decide +kernel
theorem dX9_tokenOf_7 : decode cX9_tokenOf 7 = .ok (.iaload, 1) := by decide +kernel
theorem dX9_tokenOf_8 : decode cX9_tokenOf 8 = .ok (.istore 4, 2) := by decide +kernel
theorem dX9_tokenOf_10 : decode cX9_tokenOf 10 = .ok (.aload_n 0, 1) := by decide +kernel
theorem dX9_tokenOf_11 : decode cX9_tokenOf 11 = .ok (.getfield 16, 3) := by decide +kernel
theorem dX9_tokenOf_14 : decode cX9_tokenOf 14 = .ok (.iconst 3, 1) := by decide +kernel
theorem dX9_tokenOf_15 : decode cX9_tokenOf 15 = .ok (.iload_n 2, 1) := by decide +kernel
theorem dX9_tokenOf_16 : decode cX9_tokenOf 16 = .ok (.imul, 1) := by decide +kernel
theorem dX9_tokenOf_17 : decode cX9_tokenOf 17 = .ok (.iconst 2, 1) := by decide +kernel
theorem dX9_tokenOf_18 : decode cX9_tokenOf 18 = .ok (.iadd, 1) := by decide +kernel
theorem dX9_tokenOf_19 : decode cX9_tokenOf 19 = .ok (.iaload, 1) := by decide +kernel
theorem dX9_tokenOf_20 : decode cX9_tokenOf 20 = .ok (.istore 5, 2) := by decide +kernel
theorem dX9_tokenOf_22 : decode cX9_tokenOf 22 = .ok (.iload_n 1, 1) := by decide +kernel
theorem dX9_tokenOf_23 : decode cX9_tokenOf 23 = .ok (.ifCond .ge 8, 3) := by decide +kernel
theorem dX9_tokenOf_26 : decode cX9_tokenOf 26 = .ok (.iload 4, 2) := by decide +kernel
theorem dX9_tokenOf_28 : decode cX9_tokenOf 28 = .ok (.goto 27, 3) := by decide +kernel
theorem dX9_tokenOf_31 : decode cX9_tokenOf 31 = .ok (.aload_n 0, 1) := by decide +kernel
theorem dX9_tokenOf_32 : decode cX9_tokenOf 32 = .ok (.getfield 19, 3) := by decide +kernel
theorem dX9_tokenOf_35 : decode cX9_tokenOf 35 = .ok (.bipush 8, 2) := by decide +kernel
theorem dX9_tokenOf_37 : decode cX9_tokenOf 37 = .ok (.aload_n 0, 1) := by decide +kernel
theorem dX9_tokenOf_38 : decode cX9_tokenOf 38 = .ok (.getfield 16, 3) := by decide +kernel
theorem dX9_tokenOf_41 : decode cX9_tokenOf 41 = .ok (.iconst 3, 1) := by decide +kernel
theorem dX9_tokenOf_42 : decode cX9_tokenOf 42 = .ok (.iload_n 1, 1) := by decide +kernel
theorem dX9_tokenOf_43 : decode cX9_tokenOf 43 = .ok (.imul, 1) := by decide +kernel
theorem dX9_tokenOf_44 : decode cX9_tokenOf 44 = .ok (.iconst 2, 1) := by decide +kernel
theorem dX9_tokenOf_45 : decode cX9_tokenOf 45 = .ok (.iadd, 1) := by decide +kernel
theorem dX9_tokenOf_46 : decode cX9_tokenOf 46 = .ok (.iaload, 1) := by decide +kernel
theorem dX9_tokenOf_47 : decode cX9_tokenOf 47 = .ok (.imul, 1) := by decide +kernel
theorem dX9_tokenOf_48 : decode cX9_tokenOf 48 = .ok (.iload 4, 2) := by decide +kernel
theorem dX9_tokenOf_50 : decode cX9_tokenOf 50 = .ok (.iadd, 1) := by decide +kernel
theorem dX9_tokenOf_51 : decode cX9_tokenOf 51 = .ok (.iaload, 1) := by decide +kernel
theorem dX9_tokenOf_52 : decode cX9_tokenOf 52 = .ok (.bipush 8, 2) := by decide +kernel
theorem dX9_tokenOf_54 : decode cX9_tokenOf 54 = .ok (.irem, 1) := by decide +kernel
theorem dX9_tokenOf_55 : decode cX9_tokenOf 55 = .ok (.istore 6, 2) := by decide +kernel
theorem dX9_tokenOf_57 : decode cX9_tokenOf 57 = .ok (.iload_n 3, 1) := by decide +kernel
theorem dX9_tokenOf_58 : decode cX9_tokenOf 58 = .ok (.ifCond .ge 8, 3) := by decide +kernel
theorem dX9_tokenOf_61 : decode cX9_tokenOf 61 = .ok (.iload 5, 2) := by decide +kernel
theorem dX9_tokenOf_63 : decode cX9_tokenOf 63 = .ok (.goto 25, 3) := by decide +kernel
theorem dX9_tokenOf_66 : decode cX9_tokenOf 66 = .ok (.aload_n 0, 1) := by decide +kernel
theorem dX9_tokenOf_67 : decode cX9_tokenOf 67 = .ok (.getfield 19, 3) := by decide +kernel
theorem dX9_tokenOf_70 : decode cX9_tokenOf 70 = .ok (.bipush 8, 2) := by decide +kernel
theorem dX9_tokenOf_72 : decode cX9_tokenOf 72 = .ok (.iload 5, 2) := by decide +kernel
theorem dX9_tokenOf_74 : decode cX9_tokenOf 74 = .ok (.imul, 1) := by decide +kernel
theorem dX9_tokenOf_75 : decode cX9_tokenOf 75 = .ok (.aload_n 0, 1) := by decide +kernel
theorem dX9_tokenOf_76 : decode cX9_tokenOf 76 = .ok (.getfield 16, 3) := by decide +kernel
theorem dX9_tokenOf_79 : decode cX9_tokenOf 79 = .ok (.iconst 3, 1) := by decide +kernel
theorem dX9_tokenOf_80 : decode cX9_tokenOf 80 = .ok (.iload_n 3, 1) := by decide +kernel
theorem dX9_tokenOf_81 : decode cX9_tokenOf 81 = .ok (.imul, 1) := by decide +kernel
theorem dX9_tokenOf_82 : decode cX9_tokenOf 82 = .ok (.iaload, 1) := by decide +kernel
theorem dX9_tokenOf_83 : decode cX9_tokenOf 83 = .ok (.iadd, 1) := by decide +kernel
theorem dX9_tokenOf_84 : decode cX9_tokenOf 84 = .ok (.iaload, 1) := by decide +kernel
theorem dX9_tokenOf_85 : decode cX9_tokenOf 85 = .ok (.bipush 8, 2) := by decide +kernel
theorem dX9_tokenOf_87 : decode cX9_tokenOf 87 = .ok (.idiv, 1) := by decide +kernel
theorem dX9_tokenOf_88 : decode cX9_tokenOf 88 = .ok (.istore 7, 2) := by decide +kernel
theorem dX9_tokenOf_90 : decode cX9_tokenOf 90 = .ok (.sipush 128, 3) := by decide +kernel
theorem dX9_tokenOf_93 : decode cX9_tokenOf 93 = .ok (.iload 6, 2) := by decide +kernel
theorem dX9_tokenOf_95 : decode cX9_tokenOf 95 = .ok (.imul, 1) := by decide +kernel
theorem dX9_tokenOf_96 : decode cX9_tokenOf 96 = .ok (.bipush 8, 2) := by decide +kernel
theorem dX9_tokenOf_98 : decode cX9_tokenOf 98 = .ok (.aload_n 0, 1) := by decide +kernel
theorem dX9_tokenOf_99 : decode cX9_tokenOf 99 = .ok (.getfield 16, 3) := by decide +kernel
theorem dX9_tokenOf_102 : decode cX9_tokenOf 102 = .ok (.iconst 3, 1) := by decide +kernel
theorem dX9_tokenOf_103 : decode cX9_tokenOf 103 = .ok (.iload_n 2, 1) := by decide +kernel
theorem dX9_tokenOf_104 : decode cX9_tokenOf 104 = .ok (.imul, 1) := by decide +kernel
theorem dX9_tokenOf_105 : decode cX9_tokenOf 105 = .ok (.iconst 1, 1) := by decide +kernel
theorem dX9_tokenOf_106 : decode cX9_tokenOf 106 = .ok (.iadd, 1) := by decide +kernel
theorem dX9_tokenOf_107 : decode cX9_tokenOf 107 = .ok (.iaload, 1) := by decide +kernel
theorem dX9_tokenOf_108 : decode cX9_tokenOf 108 = .ok (.imul, 1) := by decide +kernel
theorem dX9_tokenOf_109 : decode cX9_tokenOf 109 = .ok (.iadd, 1) := by decide +kernel
theorem dX9_tokenOf_110 : decode cX9_tokenOf 110 = .ok (.iload 7, 2) := by decide +kernel
theorem dX9_tokenOf_112 : decode cX9_tokenOf 112 = .ok (.iadd, 1) := by decide +kernel
theorem dX9_tokenOf_113 : decode cX9_tokenOf 113 = .ok (.ireturn, 1) := by decide +kernel
theorem dX9_rowAt_0 : decode cX9_rowAt 0 = .ok (.iload_n 1, 1) := by decide +kernel
theorem dX9_rowAt_1 : decode cX9_rowAt 1 = .ok (.ifCond .ge 8, 3) := by decide +kernel
theorem dX9_rowAt_4 : decode cX9_rowAt 4 = .ok (.bipush (-4), 2) := by decide +kernel
theorem dX9_rowAt_6 : decode cX9_rowAt 6 = .ok (.goto 9, 3) := by decide +kernel
theorem dX9_rowAt_9 : decode cX9_rowAt 9 = .ok (.aload_n 0, 1) := by decide +kernel
theorem dX9_rowAt_10 : decode cX9_rowAt 10 = .ok (.getfield 67, 3) := by decide +kernel
theorem dX9_rowAt_13 : decode cX9_rowAt 13 = .ok (.iload_n 1, 1) := by decide +kernel
theorem dX9_rowAt_14 : decode cX9_rowAt 14 = .ok (.iaload, 1) := by decide +kernel
theorem dX9_rowAt_15 : decode cX9_rowAt 15 = .ok (.ireturn, 1) := by decide +kernel
theorem dX9_tokenAt_0 : decode cX9_tokenAt 0 = .ok (.aload_n 0, 1) := by decide +kernel
theorem dX9_tokenAt_1 : decode cX9_tokenAt 1 = .ok (.aload_n 0, 1) := by decide +kernel
theorem dX9_tokenAt_2 : decode cX9_tokenAt 2 = .ok (.aload_n 0, 1) := by decide +kernel
theorem dX9_tokenAt_3 : decode cX9_tokenAt 3 = .ok (.getfield 52, 3) := by decide +kernel
theorem dX9_tokenAt_6 : decode cX9_tokenAt 6 = .ok (.iload_n 1, 1) := by decide +kernel
theorem dX9_tokenAt_7 : decode cX9_tokenAt 7 = .ok (.iaload, 1) := by decide +kernel
theorem dX9_tokenAt_8 : decode cX9_tokenAt 8 = .ok (.invokevirtual 188, 3) := by decide +kernel
theorem dX9_tokenAt_11 : decode cX9_tokenAt 11 = .ok (.aload_n 0, 1) := by decide +kernel
theorem dX9_tokenAt_12 : decode cX9_tokenAt 12 = .ok (.aload_n 0, 1) := by decide +kernel
theorem dX9_tokenAt_13 : decode cX9_tokenAt 13 = .ok (.getfield 55, 3) := by decide +kernel
theorem dX9_tokenAt_16 : decode cX9_tokenAt 16 = .ok (.iload_n 1, 1) := by decide +kernel
theorem dX9_tokenAt_17 : decode cX9_tokenAt 17 = .ok (.iaload, 1) := by decide +kernel
theorem dX9_tokenAt_18 : decode cX9_tokenAt 18 = .ok (.invokevirtual 188, 3) := by decide +kernel
theorem dX9_tokenAt_21 : decode cX9_tokenAt 21 = .ok (.aload_n 0, 1) := by decide +kernel
theorem dX9_tokenAt_22 : decode cX9_tokenAt 22 = .ok (.aload_n 0, 1) := by decide +kernel
theorem dX9_tokenAt_23 : decode cX9_tokenAt 23 = .ok (.getfield 58, 3) := by decide +kernel
theorem dX9_tokenAt_26 : decode cX9_tokenAt 26 = .ok (.iload_n 1, 1) := by decide +kernel
theorem dX9_tokenAt_27 : decode cX9_tokenAt 27 = .ok (.iaload, 1) := by decide +kernel
theorem dX9_tokenAt_28 : decode cX9_tokenAt 28 = .ok (.invokevirtual 188, 3) := by decide +kernel
theorem dX9_tokenAt_31 : decode cX9_tokenAt 31 = .ok (.invokevirtual 191, 3) := by decide +kernel
theorem dX9_tokenAt_34 : decode cX9_tokenAt 34 = .ok (.ireturn, 1) := by decide +kernel
theorem dX9_layRow_0 : decode cX9_layRow 0 = .ok (.iconst 0, 1) := by decide +kernel
theorem dX9_layRow_1 : decode cX9_layRow 1 = .ok (.istore_n 2, 1) := by decide +kernel
theorem dX9_layRow_2 : decode cX9_layRow 2 = .ok (.iload_n 2, 1) := by decide +kernel
theorem dX9_layRow_3 : decode cX9_layRow 3 = .ok (.aload_n 0, 1) := by decide +kernel
theorem dX9_layRow_4 : decode cX9_layRow 4 = .ok (.getfield 25, 3) := by decide +kernel
theorem dX9_layRow_7 : decode cX9_layRow 7 = .ok (.iload_n 1, 1) := by decide +kernel
theorem dX9_layRow_8 : decode cX9_layRow 8 = .ok (.iaload, 1) := by decide +kernel
theorem dX9_layRow_9 : decode cX9_layRow 9 = .ok (.if_icmp .ge 26, 3) := by decide +kernel
theorem dX9_layRow_12 : decode cX9_layRow 12 = .ok (.aload_n 0, 1) := by decide +kernel
theorem dX9_layRow_13 : decode cX9_layRow 13 = .ok (.getfield 67, 3) := by decide +kernel
theorem dX9_layRow_16 : decode cX9_layRow 16 = .ok (.iload_n 2, 1) := by decide +kernel
theorem dX9_layRow_17 : decode cX9_layRow 17 = .ok (.aload_n 0, 1) := by decide +kernel
theorem dX9_layRow_18 : decode cX9_layRow 18 = .ok (.getfield 28, 3) := by decide +kernel
theorem dX9_layRow_21 : decode cX9_layRow 21 = .ok (.bipush 8, 2) := by decide +kernel
theorem dX9_layRow_23 : decode cX9_layRow 23 = .ok (.iload_n 1, 1) := by decide +kernel
theorem dX9_layRow_24 : decode cX9_layRow 24 = .ok (.imul, 1) := by decide +kernel
theorem dX9_layRow_25 : decode cX9_layRow 25 = .ok (.iload_n 2, 1) := by decide +kernel
theorem dX9_layRow_26 : decode cX9_layRow 26 = .ok (.iadd, 1) := by decide +kernel
theorem dX9_layRow_27 : decode cX9_layRow 27 = .ok (.iaload, 1) := by decide +kernel
theorem dX9_layRow_28 : decode cX9_layRow 28 = .ok (.iastore, 1) := by decide +kernel
theorem dX9_layRow_29 : decode cX9_layRow 29 = .ok (.iinc 2 1, 3) := by decide +kernel
theorem dX9_layRow_32 : decode cX9_layRow 32 = .ok (.goto (-30), 3) := by decide +kernel
theorem dX9_layRow_35 : decode cX9_layRow 35 = .ok (.return_, 1) := by decide +kernel
theorem dX9_said_0 : decode cX9_said 0 = .ok (.iload_n 1, 1) := by decide +kernel
theorem dX9_said_1 : decode cX9_said 1 = .ok (.invokestatic 148, 3) := by decide +kernel
theorem dX9_said_4 : decode cX9_said 4 = .ok (.ifCond .eq 15, 3) := by decide +kernel
theorem dX9_said_7 : decode cX9_said 7 = .ok (.iload_n 2, 1) := by decide +kernel
theorem dX9_said_8 : decode cX9_said 8 = .ok (.invokestatic 195, 3) := by decide +kernel
theorem dX9_said_11 : decode cX9_said 11 = .ok (.ifCond .eq 8, 3) := by decide +kernel
theorem dX9_said_14 : decode cX9_said 14 = .ok (.iload_n 3, 1) := by decide +kernel
theorem dX9_said_15 : decode cX9_said 15 = .ok (.iconst (-1), 1) := by decide +kernel
theorem dX9_said_16 : decode cX9_said 16 = .ok (.if_icmp .ge 5, 3) := by decide +kernel
theorem dX9_said_19 : decode cX9_said 19 = .ok (.iconst (-1), 1) := by decide +kernel
theorem dX9_said_20 : decode cX9_said 20 = .ok (.ireturn, 1) := by decide +kernel
theorem dX9_said_21 : decode cX9_said 21 = .ok (.aload_n 0, 1) := by decide +kernel
theorem dX9_said_22 : decode cX9_said 22 = .ok (.getfield 25, 3) := by decide +kernel
theorem dX9_said_25 : decode cX9_said 25 = .ok (.iload_n 1, 1) := by decide +kernel
theorem dX9_said_26 : decode cX9_said 26 = .ok (.iaload, 1) := by decide +kernel
theorem dX9_said_27 : decode cX9_said 27 = .ok (.ifCond .ne 6, 3) := by decide +kernel
theorem dX9_said_30 : decode cX9_said 30 = .ok (.bipush (-2), 2) := by decide +kernel
theorem dX9_said_32 : decode cX9_said 32 = .ok (.ireturn, 1) := by decide +kernel
theorem dX9_said_33 : decode cX9_said 33 = .ok (.aload_n 0, 1) := by decide +kernel
theorem dX9_said_34 : decode cX9_said 34 = .ok (.iconst 1, 1) := by decide +kernel
theorem dX9_said_35 : decode cX9_said 35 = .ok (.iload_n 2, 1) := by decide +kernel
theorem dX9_said_36 : decode cX9_said 36 = .ok (.ishl, 1) := by decide +kernel
theorem dX9_said_37 : decode cX9_said 37 = .ok (.aload_n 0, 1) := by decide +kernel
theorem dX9_said_38 : decode cX9_said 38 = .ok (.getfield 25, 3) := by decide +kernel
theorem dX9_said_41 : decode cX9_said 41 = .ok (.iload_n 1, 1) := by decide +kernel
theorem dX9_said_42 : decode cX9_said 42 = .ok (.iaload, 1) := by decide +kernel
theorem dX9_said_43 : decode cX9_said 43 = .ok (.invokevirtual 198, 3) := by decide +kernel
theorem dX9_said_46 : decode cX9_said 46 = .ok (.aload_n 0, 1) := by decide +kernel
theorem dX9_said_47 : decode cX9_said 47 = .ok (.iload_n 1, 1) := by decide +kernel
theorem dX9_said_48 : decode cX9_said 48 = .ok (.invokevirtual 201, 3) := by decide +kernel
theorem dX9_said_51 : decode cX9_said 51 = .ok (.iload_n 3, 1) := by decide +kernel
theorem dX9_said_52 : decode cX9_said 52 = .ok (.ifCond .ge 10, 3) := by decide +kernel
theorem dX9_said_55 : decode cX9_said 55 = .ok (.aload_n 0, 1) := by decide +kernel
theorem dX9_said_56 : decode cX9_said 56 = .ok (.getfield 157, 3) := by decide +kernel
theorem dX9_said_59 : decode cX9_said 59 = .ok (.goto 21, 3) := by decide +kernel
theorem dX9_said_62 : decode cX9_said 62 = .ok (.iload_n 3, 1) := by decide +kernel
theorem dX9_said_63 : decode cX9_said 63 = .ok (.aload_n 0, 1) := by decide +kernel
theorem dX9_said_64 : decode cX9_said 64 = .ok (.getfield 157, 3) := by decide +kernel
theorem dX9_said_67 : decode cX9_said 67 = .ok (.if_icmp .ge 11, 3) := by decide +kernel
theorem dX9_said_70 : decode cX9_said 70 = .ok (.aload_n 0, 1) := by decide +kernel
theorem dX9_said_71 : decode cX9_said 71 = .ok (.iload_n 3, 1) := by decide +kernel
theorem dX9_said_72 : decode cX9_said 72 = .ok (.invokevirtual 204, 3) := by decide +kernel
theorem dX9_said_75 : decode cX9_said 75 = .ok (.goto 5, 3) := by decide +kernel
theorem dX9_said_78 : decode cX9_said 78 = .ok (.bipush (-4), 2) := by decide +kernel
theorem dX9_said_80 : decode cX9_said 80 = .ok (.ireturn, 1) := by decide +kernel
theorem dX9_say_0 : decode cX9_say 0 = .ok (.iload_n 1, 1) := by decide +kernel
theorem dX9_say_1 : decode cX9_say 1 = .ok (.invokestatic 148, 3) := by decide +kernel
theorem dX9_say_4 : decode cX9_say 4 = .ok (.ifCond .eq 10, 3) := by decide +kernel
theorem dX9_say_7 : decode cX9_say 7 = .ok (.iload_n 2, 1) := by decide +kernel
theorem dX9_say_8 : decode cX9_say 8 = .ok (.invokestatic 195, 3) := by decide +kernel
theorem dX9_say_11 : decode cX9_say 11 = .ok (.ifCond .ne 5, 3) := by decide +kernel
theorem dX9_say_14 : decode cX9_say 14 = .ok (.iconst (-1), 1) := by decide +kernel
theorem dX9_say_15 : decode cX9_say 15 = .ok (.ireturn, 1) := by decide +kernel
theorem dX9_say_16 : decode cX9_say 16 = .ok (.aload_n 0, 1) := by decide +kernel
theorem dX9_say_17 : decode cX9_say 17 = .ok (.getfield 25, 3) := by decide +kernel
theorem dX9_say_20 : decode cX9_say 20 = .ok (.iload_n 1, 1) := by decide +kernel
theorem dX9_say_21 : decode cX9_say 21 = .ok (.iaload, 1) := by decide +kernel
theorem dX9_say_22 : decode cX9_say 22 = .ok (.ifCond .ne 6, 3) := by decide +kernel
theorem dX9_say_25 : decode cX9_say 25 = .ok (.bipush (-2), 2) := by decide +kernel
theorem dX9_say_27 : decode cX9_say 27 = .ok (.ireturn, 1) := by decide +kernel
theorem dX9_say_28 : decode cX9_say 28 = .ok (.aload_n 0, 1) := by decide +kernel
theorem dX9_say_29 : decode cX9_say 29 = .ok (.iconst 1, 1) := by decide +kernel
theorem dX9_say_30 : decode cX9_say 30 = .ok (.iload_n 2, 1) := by decide +kernel
theorem dX9_say_31 : decode cX9_say 31 = .ok (.ishl, 1) := by decide +kernel
theorem dX9_say_32 : decode cX9_say 32 = .ok (.aload_n 0, 1) := by decide +kernel
theorem dX9_say_33 : decode cX9_say 33 = .ok (.getfield 25, 3) := by decide +kernel
theorem dX9_say_36 : decode cX9_say 36 = .ok (.iload_n 1, 1) := by decide +kernel
theorem dX9_say_37 : decode cX9_say 37 = .ok (.iaload, 1) := by decide +kernel
theorem dX9_say_38 : decode cX9_say 38 = .ok (.invokevirtual 198, 3) := by decide +kernel
theorem dX9_say_41 : decode cX9_say 41 = .ok (.aload_n 0, 1) := by decide +kernel
theorem dX9_say_42 : decode cX9_say 42 = .ok (.iload_n 1, 1) := by decide +kernel
theorem dX9_say_43 : decode cX9_say 43 = .ok (.invokevirtual 201, 3) := by decide +kernel
theorem dX9_say_46 : decode cX9_say 46 = .ok (.aload_n 0, 1) := by decide +kernel
theorem dX9_say_47 : decode cX9_say 47 = .ok (.getfield 31, 3) := by decide +kernel
theorem dX9_say_50 : decode cX9_say 50 = .ok (.iconst 0, 1) := by decide +kernel
theorem dX9_say_51 : decode cX9_say 51 = .ok (.aload_n 0, 1) := by decide +kernel
theorem dX9_say_52 : decode cX9_say 52 = .ok (.getfield 157, 3) := by decide +kernel
theorem dX9_say_55 : decode cX9_say 55 = .ok (.iastore, 1) := by decide +kernel
theorem dX9_say_56 : decode cX9_say 56 = .ok (.aload_n 0, 1) := by decide +kernel
theorem dX9_say_57 : decode cX9_say 57 = .ok (.getfield 34, 3) := by decide +kernel
theorem dX9_say_60 : decode cX9_say 60 = .ok (.iconst 0, 1) := by decide +kernel
theorem dX9_say_61 : decode cX9_say 61 = .ok (.iload_n 2, 1) := by decide +kernel
theorem dX9_say_62 : decode cX9_say 62 = .ok (.iastore, 1) := by decide +kernel
theorem dX9_say_63 : decode cX9_say 63 = .ok (.aload_n 0, 1) := by decide +kernel
theorem dX9_say_64 : decode cX9_say 64 = .ok (.getfield 37, 3) := by decide +kernel
theorem dX9_say_67 : decode cX9_say 67 = .ok (.iconst 0, 1) := by decide +kernel
theorem dX9_say_68 : decode cX9_say 68 = .ok (.aload_n 0, 1) := by decide +kernel
theorem dX9_say_69 : decode cX9_say 69 = .ok (.getfield 25, 3) := by decide +kernel
theorem dX9_say_72 : decode cX9_say 72 = .ok (.iload_n 1, 1) := by decide +kernel
theorem dX9_say_73 : decode cX9_say 73 = .ok (.iaload, 1) := by decide +kernel
theorem dX9_say_74 : decode cX9_say 74 = .ok (.iastore, 1) := by decide +kernel
theorem dX9_say_75 : decode cX9_say 75 = .ok (.iconst 0, 1) := by decide +kernel
theorem dX9_say_76 : decode cX9_say 76 = .ok (.istore_n 3, 1) := by decide +kernel
theorem dX9_say_77 : decode cX9_say 77 = .ok (.iload_n 3, 1) := by decide +kernel
theorem dX9_say_78 : decode cX9_say 78 = .ok (.aload_n 0, 1) := by decide +kernel
theorem dX9_say_79 : decode cX9_say 79 = .ok (.getfield 157, 3) := by decide +kernel
theorem dX9_say_82 : decode cX9_say 82 = .ok (.if_icmp .ge 20, 3) := by decide +kernel
theorem dX9_say_85 : decode cX9_say 85 = .ok (.aload_n 0, 1) := by decide +kernel
theorem dX9_say_86 : decode cX9_say 86 = .ok (.getfield 40, 3) := by decide +kernel
theorem dX9_say_89 : decode cX9_say 89 = .ok (.iload_n 3, 1) := by decide +kernel
theorem dX9_say_90 : decode cX9_say 90 = .ok (.aload_n 0, 1) := by decide +kernel
theorem dX9_say_91 : decode cX9_say 91 = .ok (.iload_n 3, 1) := by decide +kernel
theorem dX9_say_92 : decode cX9_say 92 = .ok (.invokevirtual 204, 3) := by decide +kernel
theorem dX9_say_95 : decode cX9_say 95 = .ok (.iastore, 1) := by decide +kernel
theorem dX9_say_96 : decode cX9_say 96 = .ok (.iinc 3 1, 3) := by decide +kernel
theorem dX9_say_99 : decode cX9_say 99 = .ok (.goto (-22), 3) := by decide +kernel
theorem dX9_say_102 : decode cX9_say 102 = .ok (.aload_n 0, 1) := by decide +kernel
theorem dX9_say_103 : decode cX9_say 103 = .ok (.getfield 157, 3) := by decide +kernel
theorem dX9_say_106 : decode cX9_say 106 = .ok (.ireturn, 1) := by decide +kernel
theorem dX9_alter_0 : decode cX9_alter 0 = .ok (.iload_n 1, 1) := by decide +kernel
theorem dX9_alter_1 : decode cX9_alter 1 = .ok (.i2l, 1) := by decide +kernel
theorem dX9_alter_2 : decode cX9_alter 2 = .ok (.lconst 0, 1) := by decide +kernel
theorem dX9_alter_3 : decode cX9_alter 3 = .ok (.aload_n 0, 1) := by decide +kernel
theorem dX9_alter_4 : decode cX9_alter 4 = .ok (.getfield 31, 3) := by decide +kernel
theorem dX9_alter_7 : decode cX9_alter 7 = .ok (.iconst 0, 1) := by decide +kernel
theorem dX9_alter_8 : decode cX9_alter 8 = .ok (.iaload, 1) := by decide +kernel
theorem dX9_alter_9 : decode cX9_alter 9 = .ok (.iconst 1, 1) := by decide +kernel
theorem dX9_alter_10 : decode cX9_alter 10 = .ok (.isub, 1) := by decide +kernel
theorem dX9_alter_11 : decode cX9_alter 11 = .ok (.i2l, 1) := by decide +kernel
theorem dX9_alter_12 : decode cX9_alter 12 = .ok (.invokestatic 92, 3) := by decide +kernel
theorem dX9_alter_15 : decode cX9_alter 15 = .ok (.ifCond .eq 15, 3) := by decide +kernel
theorem dX9_alter_18 : decode cX9_alter 18 = .ok (.iload_n 2, 1) := by decide +kernel
theorem dX9_alter_19 : decode cX9_alter 19 = .ok (.i2l, 1) := by decide +kernel
theorem dX9_alter_20 : decode cX9_alter 20 = .ok (.lconst 0, 1) := by decide +kernel
theorem dX9_alter_21 : decode cX9_alter 21 = .ok (.ldc2_w 207, 3) := by decide +kernel
theorem dX9_alter_24 : decode cX9_alter 24 = .ok (.invokestatic 92, 3) := by decide +kernel
theorem dX9_alter_27 : decode cX9_alter 27 = .ok (.ifCond .ne 5, 3) := by decide +kernel
theorem dX9_alter_30 : decode cX9_alter 30 = .ok (.iconst (-1), 1) := by decide +kernel
theorem dX9_alter_31 : decode cX9_alter 31 = .ok (.ireturn, 1) := by decide +kernel
theorem dX9_alter_32 : decode cX9_alter 32 = .ok (.aload_n 0, 1) := by decide +kernel
theorem dX9_alter_33 : decode cX9_alter 33 = .ok (.getfield 40, 3) := by decide +kernel
theorem dX9_alter_36 : decode cX9_alter 36 = .ok (.iload_n 1, 1) := by decide +kernel
theorem dX9_alter_37 : decode cX9_alter 37 = .ok (.iaload, 1) := by decide +kernel
theorem dX9_alter_38 : decode cX9_alter 38 = .ok (.istore_n 3, 1) := by decide +kernel
theorem dX9_alter_39 : decode cX9_alter 39 = .ok (.aload_n 0, 1) := by decide +kernel
theorem dX9_alter_40 : decode cX9_alter 40 = .ok (.getfield 40, 3) := by decide +kernel
theorem dX9_alter_43 : decode cX9_alter 43 = .ok (.iload_n 1, 1) := by decide +kernel
theorem dX9_alter_44 : decode cX9_alter 44 = .ok (.iload_n 2, 1) := by decide +kernel
theorem dX9_alter_45 : decode cX9_alter 45 = .ok (.iastore, 1) := by decide +kernel
theorem dX9_alter_46 : decode cX9_alter 46 = .ok (.iload_n 3, 1) := by decide +kernel
theorem dX9_alter_47 : decode cX9_alter 47 = .ok (.ireturn, 1) := by decide +kernel
theorem dX9_later_0 : decode cX9_later 0 = .ok (.iload_n 0, 1) := by decide +kernel
theorem dX9_later_1 : decode cX9_later 1 = .ok (.iload_n 1, 1) := by decide +kernel
theorem dX9_later_2 : decode cX9_later 2 = .ok (.if_icmp .le 7, 3) := by decide +kernel
theorem dX9_later_5 : decode cX9_later 5 = .ok (.iload_n 0, 1) := by decide +kernel
theorem dX9_later_6 : decode cX9_later 6 = .ok (.goto 4, 3) := by decide +kernel
theorem dX9_later_9 : decode cX9_later 9 = .ok (.iload_n 1, 1) := by decide +kernel
theorem dX9_later_10 : decode cX9_later 10 = .ok (.ireturn, 1) := by decide +kernel
theorem dX9_unlikeAt_0 : decode cX9_unlikeAt 0 = .ok (.iconst 0, 1) := by decide +kernel
theorem dX9_unlikeAt_1 : decode cX9_unlikeAt 1 = .ok (.istore_n 2, 1) := by decide +kernel
theorem dX9_unlikeAt_2 : decode cX9_unlikeAt 2 = .ok (.aload_n 0, 1) := by decide +kernel
theorem dX9_unlikeAt_3 : decode cX9_unlikeAt 3 = .ok (.getfield 61, 3) := by decide +kernel
theorem dX9_unlikeAt_6 : decode cX9_unlikeAt 6 = .ok (.iload_n 1, 1) := by decide +kernel
theorem dX9_unlikeAt_7 : decode cX9_unlikeAt 7 = .ok (.iaload, 1) := by decide +kernel
theorem dX9_unlikeAt_8 : decode cX9_unlikeAt 8 = .ok (.istore_n 3, 1) := by decide +kernel
theorem dX9_unlikeAt_9 : decode cX9_unlikeAt 9 = .ok (.iload_n 3, 1) := by decide +kernel
theorem dX9_unlikeAt_10 : decode cX9_unlikeAt 10 = .ok (.ifCond .lt 35, 3) := by decide +kernel
theorem dX9_unlikeAt_13 : decode cX9_unlikeAt 13 = .ok (.iload_n 2, 1) := by decide +kernel
theorem dX9_unlikeAt_14 : decode cX9_unlikeAt 14 = .ok (.aload_n 0, 1) := by decide +kernel
theorem dX9_unlikeAt_15 : decode cX9_unlikeAt 15 = .ok (.iload_n 3, 1) := by decide +kernel
theorem dX9_unlikeAt_16 : decode cX9_unlikeAt 16 = .ok (.invokevirtual 204, 3) := by decide +kernel
theorem dX9_unlikeAt_19 : decode cX9_unlikeAt 19 = .ok (.aload_n 0, 1) := by decide +kernel
theorem dX9_unlikeAt_20 : decode cX9_unlikeAt 20 = .ok (.getfield 70, 3) := by decide +kernel
theorem dX9_unlikeAt_23 : decode cX9_unlikeAt 23 = .ok (.iload_n 3, 1) := by decide +kernel
theorem dX9_unlikeAt_24 : decode cX9_unlikeAt 24 = .ok (.iaload, 1) := by decide +kernel
theorem dX9_unlikeAt_25 : decode cX9_unlikeAt 25 = .ok (.if_icmp .eq 7, 3) := by decide +kernel
theorem dX9_unlikeAt_28 : decode cX9_unlikeAt 28 = .ok (.iconst 1, 1) := by decide +kernel
theorem dX9_unlikeAt_29 : decode cX9_unlikeAt 29 = .ok (.goto 4, 3) := by decide +kernel
theorem dX9_unlikeAt_32 : decode cX9_unlikeAt 32 = .ok (.iconst 0, 1) := by decide +kernel
theorem dX9_unlikeAt_33 : decode cX9_unlikeAt 33 = .ok (.iadd, 1) := by decide +kernel
theorem dX9_unlikeAt_34 : decode cX9_unlikeAt 34 = .ok (.istore_n 2, 1) := by decide +kernel
theorem dX9_unlikeAt_35 : decode cX9_unlikeAt 35 = .ok (.aload_n 0, 1) := by decide +kernel
theorem dX9_unlikeAt_36 : decode cX9_unlikeAt 36 = .ok (.getfield 64, 3) := by decide +kernel
theorem dX9_unlikeAt_39 : decode cX9_unlikeAt 39 = .ok (.iload_n 3, 1) := by decide +kernel
theorem dX9_unlikeAt_40 : decode cX9_unlikeAt 40 = .ok (.iaload, 1) := by decide +kernel
theorem dX9_unlikeAt_41 : decode cX9_unlikeAt 41 = .ok (.istore_n 3, 1) := by decide +kernel
theorem dX9_unlikeAt_42 : decode cX9_unlikeAt 42 = .ok (.goto (-33), 3) := by decide +kernel
theorem dX9_unlikeAt_45 : decode cX9_unlikeAt 45 = .ok (.iload_n 2, 1) := by decide +kernel
theorem dX9_unlikeAt_46 : decode cX9_unlikeAt 46 = .ok (.ireturn, 1) := by decide +kernel
