theorem dX9_at_0 : decode cX9_at 0 = .ok (.sipush 256, 3) := by decide +kernel
theorem dX9_at_3 : decode cX9_at 3 = .ok (.iload_n 0, 1) := by decide +kernel
theorem dX9_at_4 : decode cX9_at 4 = .ok (.imul, 1) := by decide +kernel
theorem dX9_at_5 : decode cX9_at 5 = .ok (.bipush 16, 2) := by decide +kernel
theorem dX9_at_7 : decode cX9_at 7 = .ok (.iload_n 1, 1) := by decide +kernel
theorem dX9_at_8 : decode cX9_at 8 = .ok (.imul, 1) := by decide +kernel
theorem dX9_at_9 : decode cX9_at 9 = .ok (.iadd, 1) := by decide +kernel
theorem dX9_at_10 : decode cX9_at 10 = .ok (.iload_n 2, 1) := by decide +kernel
theorem dX9_at_11 : decode cX9_at 11 = .ok (.iadd, 1) := by decide +kernel
theorem dX9_at_12 : decode cX9_at 12 = .ok (.ireturn, 1) := by decide +kernel
theorem dX9_layLeast_0 : decode cX9_layLeast 0 = .ok (.iconst 0, 1) := by decide +kernel
theorem dX9_layLeast_1 : decode cX9_layLeast 1 = .ok (.istore_n 2, 1) := by decide +kernel
theorem dX9_layLeast_2 : decode cX9_layLeast 2 = .ok (.iload_n 2, 1) := by decide +kernel
theorem dX9_layLeast_3 : decode cX9_layLeast 3 = .ok (.sipush 256, 3) := by decide +kernel
theorem dX9_layLeast_6 : decode cX9_layLeast 6 = .ok (.if_icmp .ge 48, 3) := by decide +kernel
theorem dX9_layLeast_9 : decode cX9_layLeast 9 = .ok (.aload_n 0, 1) := by decide +kernel
theorem dX9_layLeast_10 : decode cX9_layLeast 10 = .ok (.getfield 73, 3) := by decide +kernel
theorem dX9_layLeast_13 : decode cX9_layLeast 13 = .ok (.sipush 256, 3) := by decide +kernel
theorem dX9_layLeast_16 : decode cX9_layLeast 16 = .ok (.iload_n 1, 1) := by decide +kernel
theorem dX9_layLeast_17 : decode cX9_layLeast 17 = .ok (.imul, 1) := by decide +kernel
theorem dX9_layLeast_18 : decode cX9_layLeast 18 = .ok (.iload_n 2, 1) := by decide +kernel
theorem dX9_layLeast_19 : decode cX9_layLeast 19 = .ok (.iadd, 1) := by decide +kernel
theorem dX9_layLeast_20 : decode cX9_layLeast 20 = .ok (.iconst 0, 1) := by decide +kernel
theorem dX9_layLeast_21 : decode cX9_layLeast 21 = .ok (.iastore, 1) := by decide +kernel
theorem dX9_layLeast_22 : decode cX9_layLeast 22 = .ok (.aload_n 0, 1) := by decide +kernel
theorem dX9_layLeast_23 : decode cX9_layLeast 23 = .ok (.getfield 76, 3) := by decide +kernel
theorem dX9_layLeast_26 : decode cX9_layLeast 26 = .ok (.sipush 256, 3) := by decide +kernel
theorem dX9_layLeast_29 : decode cX9_layLeast 29 = .ok (.iload_n 1, 1) := by decide +kernel
theorem dX9_layLeast_30 : decode cX9_layLeast 30 = .ok (.imul, 1) := by decide +kernel
theorem dX9_layLeast_31 : decode cX9_layLeast 31 = .ok (.iload_n 2, 1) := by decide +kernel
theorem dX9_layLeast_32 : decode cX9_layLeast 32 = .ok (.iadd, 1) := by decide +kernel
theorem dX9_layLeast_33 : decode cX9_layLeast 33 = .ok (.lconst 1, 1) := by decide +kernel
theorem dX9_layLeast_34 : decode cX9_layLeast 34 = .ok (.lastore, 1) := by decide +kernel
theorem dX9_layLeast_35 : decode cX9_layLeast 35 = .ok (.aload_n 0, 1) := by decide +kernel
theorem dX9_layLeast_36 : decode cX9_layLeast 36 = .ok (.getfield 80, 3) := by decide +kernel
theorem dX9_layLeast_39 : decode cX9_layLeast 39 = .ok (.sipush 256, 3) := by decide +kernel
theorem dX9_layLeast_42 : decode cX9_layLeast 42 = .ok (.iload_n 1, 1) := by decide +kernel
theorem dX9_layLeast_43 : decode cX9_layLeast 43 = .ok (.imul, 1) := by decide +kernel
theorem dX9_layLeast_44 : decode cX9_layLeast 44 = .ok (.iload_n 2, 1) := by decide +kernel
theorem dX9_layLeast_45 : decode cX9_layLeast 45 = .ok (.iadd, 1) := by decide +kernel
theorem dX9_layLeast_46 : decode cX9_layLeast 46 = .ok (.lconst 1, 1) := by decide +kernel
theorem dX9_layLeast_47 : decode cX9_layLeast 47 = .ok (.lastore, 1) := by decide +kernel
theorem dX9_layLeast_48 : decode cX9_layLeast 48 = .ok (.iinc 2 1, 3) := by decide +kernel
theorem dX9_layLeast_51 : decode cX9_layLeast 51 = .ok (.goto (-49), 3) := by decide +kernel
theorem dX9_layLeast_54 : decode cX9_layLeast 54 = .ok (.iload_n 1, 1) := by decide +kernel
theorem dX9_layLeast_55 : decode cX9_layLeast 55 = .ok (.iconst 1, 1) := by decide +kernel
theorem dX9_layLeast_56 : decode cX9_layLeast 56 = .ok (.isub, 1) := by decide +kernel
theorem dX9_layLeast_57 : decode cX9_layLeast 57 = .ok (.istore_n 2, 1) := by decide +kernel
theorem dX9_layLeast_58 : decode cX9_layLeast 58 = .ok (.iload_n 2, 1) := by decide +kernel
theorem dX9_layLeast_59 : decode cX9_layLeast 59 = .ok (.ifCond .lt 72, 3) := by decide +kernel
theorem dX9_layLeast_62 : decode cX9_layLeast 62 = .ok (.iconst 0, 1) := by decide +kernel
theorem dX9_layLeast_63 : decode cX9_layLeast 63 = .ok (.istore_n 3, 1) := by decide +kernel
theorem dX9_layLeast_64 : decode cX9_layLeast 64 = .ok (.iload_n 3, 1) := by decide +kernel
theorem dX9_layLeast_65 : decode cX9_layLeast 65 = .ok (.iload_n 2, 1) := by decide +kernel
theorem dX9_layLeast_66 : decode cX9_layLeast 66 = .ok (.iconst 1, 1) := by decide +kernel
theorem dX9_layLeast_67 : decode cX9_layLeast 67 = .ok (.if_icmp .le 12, 3) := by decide +kernel
theorem dX9_layLeast_70 : decode cX9_layLeast 70 = .ok (.aload_n 0, 1) := by decide +kernel
theorem dX9_layLeast_71 : decode cX9_layLeast 71 = .ok (.getfield 13, 3) := by decide +kernel
theorem dX9_layLeast_74 : decode cX9_layLeast 74 = .ok (.iconst 0, 1) := by decide +kernel
theorem dX9_layLeast_75 : decode cX9_layLeast 75 = .ok (.iaload, 1) := by decide +kernel
theorem dX9_layLeast_76 : decode cX9_layLeast 76 = .ok (.goto 4, 3) := by decide +kernel
theorem dX9_layLeast_79 : decode cX9_layLeast 79 = .ok (.iconst 1, 1) := by decide +kernel
theorem dX9_layLeast_80 : decode cX9_layLeast 80 = .ok (.if_icmp .ge 45, 3) := by decide +kernel
theorem dX9_layLeast_83 : decode cX9_layLeast 83 = .ok (.iconst 0, 1) := by decide +kernel
theorem dX9_layLeast_84 : decode cX9_layLeast 84 = .ok (.istore 4, 2) := by decide +kernel
theorem dX9_layLeast_86 : decode cX9_layLeast 86 = .ok (.iload 4, 2) := by decide +kernel
theorem dX9_layLeast_88 : decode cX9_layLeast 88 = .ok (.iload_n 2, 1) := by decide +kernel
theorem dX9_layLeast_89 : decode cX9_layLeast 89 = .ok (.ifCond .le 12, 3) := by decide +kernel
theorem dX9_layLeast_92 : decode cX9_layLeast 92 = .ok (.aload_n 0, 1) := by decide +kernel
theorem dX9_layLeast_93 : decode cX9_layLeast 93 = .ok (.getfield 13, 3) := by decide +kernel
theorem dX9_layLeast_96 : decode cX9_layLeast 96 = .ok (.iconst 0, 1) := by decide +kernel
theorem dX9_layLeast_97 : decode cX9_layLeast 97 = .ok (.iaload, 1) := by decide +kernel
theorem dX9_layLeast_98 : decode cX9_layLeast 98 = .ok (.goto 4, 3) := by decide +kernel
theorem dX9_layLeast_101 : decode cX9_layLeast 101 = .ok (.iconst 1, 1) := by decide +kernel
theorem dX9_layLeast_102 : decode cX9_layLeast 102 = .ok (.if_icmp .ge 17, 3) := by decide +kernel
theorem dX9_layLeast_105 : decode cX9_layLeast 105 = .ok (.aload_n 0, 1) := by decide +kernel
theorem dX9_layLeast_106 : decode cX9_layLeast 106 = .ok (.iload_n 2, 1) := by decide +kernel
theorem dX9_layLeast_107 : decode cX9_layLeast 107 = .ok (.iload_n 3, 1) := by decide +kernel
theorem dX9_layLeast_108 : decode cX9_layLeast 108 = .ok (.iload 4, 2) := by decide +kernel
theorem dX9_layLeast_110 : decode cX9_layLeast 110 = .ok (.invokevirtual 209, 3) := by decide +kernel
theorem dX9_layLeast_113 : decode cX9_layLeast 113 = .ok (.iinc 4 1, 3) := by decide +kernel
theorem dX9_layLeast_116 : decode cX9_layLeast 116 = .ok (.goto (-30), 3) := by decide +kernel
theorem dX9_layLeast_119 : decode cX9_layLeast 119 = .ok (.iinc 3 1, 3) := by decide +kernel
theorem dX9_layLeast_122 : decode cX9_layLeast 122 = .ok (.goto (-58), 3) := by decide +kernel
theorem dX9_layLeast_125 : decode cX9_layLeast 125 = .ok (.iinc 2 (-1), 3) := by decide +kernel
theorem dX9_layLeast_128 : decode cX9_layLeast 128 = .ok (.goto (-70), 3) := by decide +kernel
theorem dX9_layLeast_131 : decode cX9_layLeast 131 = .ok (.return_, 1) := by decide +kernel
theorem dX9_layState_0 : decode cX9_layState 0 = .ok (.iload_n 1, 1) := by decide +kernel
theorem dX9_layState_1 : decode cX9_layState 1 = .ok (.iload_n 2, 1) := by decide +kernel
theorem dX9_layState_2 : decode cX9_layState 2 = .ok (.iload_n 3, 1) := by decide +kernel
theorem dX9_layState_3 : decode cX9_layState 3 = .ok (.invokestatic 213, 3) := by decide +kernel
theorem dX9_layState_6 : decode cX9_layState 6 = .ok (.istore 4, 2) := by decide +kernel
theorem dX9_layState_8 : decode cX9_layState 8 = .ok (.aload_n 0, 1) := by decide +kernel
theorem dX9_layState_9 : decode cX9_layState 9 = .ok (.getfield 73, 3) := by decide +kernel
theorem dX9_layState_12 : decode cX9_layState 12 = .ok (.iload 4, 2) := by decide +kernel
theorem dX9_layState_14 : decode cX9_layState 14 = .ok (.ldc 216, 2) := by decide +kernel
theorem dX9_layState_16 : decode cX9_layState 16 = .ok (.iastore, 1) := by decide +kernel
theorem dX9_layState_17 : decode cX9_layState 17 = .ok (.aload_n 0, 1) := by decide +kernel
theorem dX9_layState_18 : decode cX9_layState 18 = .ok (.getfield 76, 3) := by decide +kernel
theorem dX9_layState_21 : decode cX9_layState 21 = .ok (.iload 4, 2) := by decide +kernel
theorem dX9_layState_23 : decode cX9_layState 23 = .ok (.lconst 0, 1) := by decide +kernel
theorem dX9_layState_24 : decode cX9_layState 24 = .ok (.lastore, 1) := by decide +kernel
theorem dX9_layState_25 : decode cX9_layState 25 = .ok (.aload_n 0, 1) := by decide +kernel
theorem dX9_layState_26 : decode cX9_layState 26 = .ok (.getfield 80, 3) := by decide +kernel
theorem dX9_layState_29 : decode cX9_layState 29 = .ok (.iload 4, 2) := by decide +kernel
theorem dX9_layState_31 : decode cX9_layState 31 = .ok (.lconst 0, 1) := by decide +kernel
theorem dX9_layState_32 : decode cX9_layState 32 = .ok (.lastore, 1) := by decide +kernel
theorem dX9_layState_33 : decode cX9_layState 33 = .ok (.iload_n 1, 1) := by decide +kernel
theorem dX9_layState_34 : decode cX9_layState 34 = .ok (.iconst 1, 1) := by decide +kernel
theorem dX9_layState_35 : decode cX9_layState 35 = .ok (.if_icmp .le 12, 3) := by decide +kernel
theorem dX9_layState_38 : decode cX9_layState 38 = .ok (.aload_n 0, 1) := by decide +kernel
theorem dX9_layState_39 : decode cX9_layState 39 = .ok (.getfield 67, 3) := by decide +kernel
theorem dX9_layState_42 : decode cX9_layState 42 = .ok (.iload_n 1, 1) := by decide +kernel
theorem dX9_layState_43 : decode cX9_layState 43 = .ok (.iconst 2, 1) := by decide +kernel
theorem dX9_layState_44 : decode cX9_layState 44 = .ok (.isub, 1) := by decide +kernel
theorem dX9_layState_45 : decode cX9_layState 45 = .ok (.iload_n 2, 1) := by decide +kernel
theorem dX9_layState_46 : decode cX9_layState 46 = .ok (.iastore, 1) := by decide +kernel
theorem dX9_layState_47 : decode cX9_layState 47 = .ok (.iload_n 1, 1) := by decide +kernel
theorem dX9_layState_48 : decode cX9_layState 48 = .ok (.ifCond .le 12, 3) := by decide +kernel
theorem dX9_layState_51 : decode cX9_layState 51 = .ok (.aload_n 0, 1) := by decide +kernel
theorem dX9_layState_52 : decode cX9_layState 52 = .ok (.getfield 67, 3) := by decide +kernel
theorem dX9_layState_55 : decode cX9_layState 55 = .ok (.iload_n 1, 1) := by decide +kernel
theorem dX9_layState_56 : decode cX9_layState 56 = .ok (.iconst 1, 1) := by decide +kernel
theorem dX9_layState_57 : decode cX9_layState 57 = .ok (.isub, 1) := by decide +kernel
theorem dX9_layState_58 : decode cX9_layState 58 = .ok (.iload_n 3, 1) := by decide +kernel
theorem dX9_layState_59 : decode cX9_layState 59 = .ok (.iastore, 1) := by decide +kernel
theorem dX9_layState_60 : decode cX9_layState 60 = .ok (.iconst 0, 1) := by decide +kernel
theorem dX9_layState_61 : decode cX9_layState 61 = .ok (.istore 5, 2) := by decide +kernel
theorem dX9_layState_63 : decode cX9_layState 63 = .ok (.iload 5, 2) := by decide +kernel
theorem dX9_layState_65 : decode cX9_layState 65 = .ok (.aload_n 0, 1) := by decide +kernel
theorem dX9_layState_66 : decode cX9_layState 66 = .ok (.getfield 13, 3) := by decide +kernel
theorem dX9_layState_69 : decode cX9_layState 69 = .ok (.iconst 0, 1) := by decide +kernel
theorem dX9_layState_70 : decode cX9_layState 70 = .ok (.iaload, 1) := by decide +kernel
theorem dX9_layState_71 : decode cX9_layState 71 = .ok (.if_icmp .ge 178, 3) := by decide +kernel
theorem dX9_layState_74 : decode cX9_layState 74 = .ok (.aload_n 0, 1) := by decide +kernel
theorem dX9_layState_75 : decode cX9_layState 75 = .ok (.getfield 67, 3) := by decide +kernel
theorem dX9_layState_78 : decode cX9_layState 78 = .ok (.iload_n 1, 1) := by decide +kernel
theorem dX9_layState_79 : decode cX9_layState 79 = .ok (.iload 5, 2) := by decide +kernel
theorem dX9_layState_81 : decode cX9_layState 81 = .ok (.iastore, 1) := by decide +kernel
theorem dX9_layState_82 : decode cX9_layState 82 = .ok (.aload_n 0, 1) := by decide +kernel
theorem dX9_layState_83 : decode cX9_layState 83 = .ok (.iload_n 1, 1) := by decide +kernel
theorem dX9_layState_84 : decode cX9_layState 84 = .ok (.invokevirtual 217, 3) := by decide +kernel
theorem dX9_layState_87 : decode cX9_layState 87 = .ok (.istore 6, 2) := by decide +kernel
theorem dX9_layState_89 : decode cX9_layState 89 = .ok (.iload_n 1, 1) := by decide +kernel
theorem dX9_layState_90 : decode cX9_layState 90 = .ok (.iconst 1, 1) := by decide +kernel
theorem dX9_layState_91 : decode cX9_layState 91 = .ok (.iadd, 1) := by decide +kernel
theorem dX9_layState_92 : decode cX9_layState 92 = .ok (.iload_n 1, 1) := by decide +kernel
theorem dX9_layState_93 : decode cX9_layState 93 = .ok (.ifCond .le 7, 3) := by decide +kernel
theorem dX9_layState_96 : decode cX9_layState 96 = .ok (.iload_n 3, 1) := by decide +kernel
theorem dX9_layState_97 : decode cX9_layState 97 = .ok (.goto 4, 3) := by decide +kernel
theorem dX9_layState_100 : decode cX9_layState 100 = .ok (.iconst 0, 1) := by decide +kernel
theorem dX9_layState_101 : decode cX9_layState 101 = .ok (.iload 5, 2) := by decide +kernel
theorem dX9_layState_103 : decode cX9_layState 103 = .ok (.invokestatic 213, 3) := by decide +kernel
theorem dX9_layState_106 : decode cX9_layState 106 = .ok (.istore 7, 2) := by decide +kernel
theorem dX9_layState_108 : decode cX9_layState 108 = .ok (.iload 6, 2) := by decide +kernel
theorem dX9_layState_110 : decode cX9_layState 110 = .ok (.aload_n 0, 1) := by decide +kernel
theorem dX9_layState_111 : decode cX9_layState 111 = .ok (.getfield 73, 3) := by decide +kernel
theorem dX9_layState_114 : decode cX9_layState 114 = .ok (.iload 7, 2) := by decide +kernel
theorem dX9_layState_116 : decode cX9_layState 116 = .ok (.iaload, 1) := by decide +kernel
theorem dX9_layState_117 : decode cX9_layState 117 = .ok (.iadd, 1) := by decide +kernel
theorem dX9_layState_118 : decode cX9_layState 118 = .ok (.istore 8, 2) := by decide +kernel
theorem dX9_layState_120 : decode cX9_layState 120 = .ok (.aload_n 0, 1) := by decide +kernel
theorem dX9_layState_121 : decode cX9_layState 121 = .ok (.getfield 80, 3) := by decide +kernel
theorem dX9_layState_124 : decode cX9_layState 124 = .ok (.iload 4, 2) := by decide +kernel
theorem dX9_layState_126 : decode cX9_layState 126 = .ok (.dup2, 1) := by decide +kernel
theorem dX9_layState_127 : decode cX9_layState 127 = .ok (.laload, 1) := by decide +kernel
theorem dX9_layState_128 : decode cX9_layState 128 = .ok (.iload 6, 2) := by decide +kernel
theorem dX9_layState_130 : decode cX9_layState 130 = .ok (.ifCond .ne 13, 3) := by decide +kernel
theorem dX9_layState_133 : decode cX9_layState 133 = .ok (.aload_n 0, 1) := by decide +kernel
theorem dX9_layState_134 : decode cX9_layState 134 = .ok (.getfield 80, 3) := by decide +kernel
theorem dX9_layState_137 : decode cX9_layState 137 = .ok (.iload 7, 2) := by decide +kernel
theorem dX9_layState_139 : decode cX9_layState 139 = .ok (.laload, 1) := by decide +kernel
theorem dX9_layState_140 : decode cX9_layState 140 = .ok (.goto 4, 3) := by decide +kernel
theorem dX9_layState_143 : decode cX9_layState 143 = .ok (.lconst 0, 1) := by decide +kernel
theorem dX9_layState_144 : decode cX9_layState 144 = .ok (.ladd, 1) := by decide +kernel
theorem dX9_layState_145 : decode cX9_layState 145 = .ok (.lastore, 1) := by decide +kernel
theorem dX9_layState_146 : decode cX9_layState 146 = .ok (.aload_n 0, 1) := by decide +kernel
theorem dX9_layState_147 : decode cX9_layState 147 = .ok (.getfield 76, 3) := by decide +kernel
theorem dX9_layState_150 : decode cX9_layState 150 = .ok (.iload 4, 2) := by decide +kernel
theorem dX9_layState_152 : decode cX9_layState 152 = .ok (.iload 8, 2) := by decide +kernel
theorem dX9_layState_154 : decode cX9_layState 154 = .ok (.aload_n 0, 1) := by decide +kernel
theorem dX9_layState_155 : decode cX9_layState 155 = .ok (.getfield 73, 3) := by decide +kernel
theorem dX9_layState_158 : decode cX9_layState 158 = .ok (.iload 4, 2) := by decide +kernel
theorem dX9_layState_160 : decode cX9_layState 160 = .ok (.iaload, 1) := by decide +kernel
theorem dX9_layState_161 : decode cX9_layState 161 = .ok (.if_icmp .ge 13, 3) := by decide +kernel
theorem dX9_layState_164 : decode cX9_layState 164 = .ok (.aload_n 0, 1) := by decide +kernel
theorem dX9_layState_165 : decode cX9_layState 165 = .ok (.getfield 76, 3) := by decide +kernel
theorem dX9_layState_168 : decode cX9_layState 168 = .ok (.iload 7, 2) := by decide +kernel
theorem dX9_layState_170 : decode cX9_layState 170 = .ok (.laload, 1) := by decide +kernel
theorem dX9_layState_171 : decode cX9_layState 171 = .ok (.goto 40, 3) := by decide +kernel
theorem dX9_layState_174 : decode cX9_layState 174 = .ok (.iload 8, 2) := by decide +kernel
theorem dX9_layState_176 : decode cX9_layState 176 = .ok (.aload_n 0, 1) := by decide +kernel
theorem dX9_layState_177 : decode cX9_layState 177 = .ok (.getfield 73, 3) := by decide +kernel
theorem dX9_layState_180 : decode cX9_layState 180 = .ok (.iload 4, 2) := by decide +kernel
theorem dX9_layState_182 : decode cX9_layState 182 = .ok (.iaload, 1) := by decide +kernel
theorem dX9_layState_183 : decode cX9_layState 183 = .ok (.if_icmp .ne 21, 3) := by decide +kernel
theorem dX9_layState_186 : decode cX9_layState 186 = .ok (.aload_n 0, 1) := by decide +kernel
theorem dX9_layState_187 : decode cX9_layState 187 = .ok (.getfield 76, 3) := by decide +kernel
theorem dX9_layState_190 : decode cX9_layState 190 = .ok (.iload 4, 2) := by decide +kernel
theorem dX9_layState_192 : decode cX9_layState 192 = .ok (.laload, 1) := by decide +kernel
theorem dX9_layState_193 : decode cX9_layState 193 = .ok (.aload_n 0, 1) := by decide +kernel
theorem dX9_layState_194 : decode cX9_layState 194 = .ok (.getfield 76, 3) := by decide +kernel
theorem dX9_layState_197 : decode cX9_layState 197 = .ok (.iload 7, 2) := by decide +kernel
theorem dX9_layState_199 : decode cX9_layState 199 = .ok (.laload, 1) := by decide +kernel
theorem dX9_layState_200 : decode cX9_layState 200 = .ok (.ladd, 1) := by decide +kernel
theorem dX9_layState_201 : decode cX9_layState 201 = .ok (.goto 10, 3) := by decide +kernel
theorem dX9_layState_204 : decode cX9_layState 204 = .ok (.aload_n 0, 1) := by decide +kernel
theorem dX9_layState_205 : decode cX9_layState 205 = .ok (.getfield 76, 3) := by decide +kernel
theorem dX9_layState_208 : decode cX9_layState 208 = .ok (.iload 4, 2) := by decide +kernel
theorem dX9_layState_210 : decode cX9_layState 210 = .ok (.laload, 1) := by decide +kernel
theorem dX9_layState_211 : decode cX9_layState 211 = .ok (.lastore, 1) := by decide +kernel
theorem dX9_layState_212 : decode cX9_layState 212 = .ok (.aload_n 0, 1) := by decide +kernel
theorem dX9_layState_213 : decode cX9_layState 213 = .ok (.getfield 73, 3) := by decide +kernel
theorem dX9_layState_216 : decode cX9_layState 216 = .ok (.iload 4, 2) := by decide +kernel
theorem dX9_layState_218 : decode cX9_layState 218 = .ok (.iload 8, 2) := by decide +kernel
theorem dX9_layState_220 : decode cX9_layState 220 = .ok (.aload_n 0, 1) := by decide +kernel
theorem dX9_layState_221 : decode cX9_layState 221 = .ok (.getfield 73, 3) := by decide +kernel
theorem dX9_layState_224 : decode cX9_layState 224 = .ok (.iload 4, 2) := by decide +kernel
theorem dX9_layState_226 : decode cX9_layState 226 = .ok (.iaload, 1) := by decide +kernel
theorem dX9_layState_227 : decode cX9_layState 227 = .ok (.if_icmp .ge 8, 3) := by decide +kernel
theorem dX9_layState_230 : decode cX9_layState 230 = .ok (.iload 8, 2) := by decide +kernel
theorem dX9_layState_232 : decode cX9_layState 232 = .ok (.goto 10, 3) := by decide +kernel
theorem dX9_layState_235 : decode cX9_layState 235 = .ok (.aload_n 0, 1) := by decide +kernel
theorem dX9_layState_236 : decode cX9_layState 236 = .ok (.getfield 73, 3) := by decide +kernel
theorem dX9_layState_239 : decode cX9_layState 239 = .ok (.iload 4, 2) := by decide +kernel
theorem dX9_layState_241 : decode cX9_layState 241 = .ok (.iaload, 1) := by decide +kernel
theorem dX9_layState_242 : decode cX9_layState 242 = .ok (.iastore, 1) := by decide +kernel
theorem dX9_layState_243 : decode cX9_layState 243 = .ok (.iinc 5 1, 3) := by decide +kernel
theorem dX9_layState_246 : decode cX9_layState 246 = .ok (.goto (-183), 3) := by decide +kernel
theorem dX9_layState_249 : decode cX9_layState 249 = .ok (.return_, 1) := by decide +kernel
theorem dX9_laySaying_0 : decode cX9_laySaying 0 = .ok (.aload_n 0, 1) := by decide +kernel
theorem dX9_laySaying_1 : decode cX9_laySaying 1 = .ok (.iconst 1, 1) := by decide +kernel
theorem dX9_laySaying_2 : decode cX9_laySaying 2 = .ok (.aload_n 0, 1) := by decide +kernel
theorem dX9_laySaying_3 : decode cX9_laySaying 3 = .ok (.getfield 34, 3) := by decide +kernel
theorem dX9_laySaying_6 : decode cX9_laySaying 6 = .ok (.iconst 0, 1) := by decide +kernel
theorem dX9_laySaying_7 : decode cX9_laySaying 7 = .ok (.iaload, 1) := by decide +kernel
theorem dX9_laySaying_8 : decode cX9_laySaying 8 = .ok (.ishl, 1) := by decide +kernel
theorem dX9_laySaying_9 : decode cX9_laySaying 9 = .ok (.aload_n 0, 1) := by decide +kernel
theorem dX9_laySaying_10 : decode cX9_laySaying 10 = .ok (.getfield 37, 3) := by decide +kernel
theorem dX9_laySaying_13 : decode cX9_laySaying 13 = .ok (.iconst 0, 1) := by decide +kernel
theorem dX9_laySaying_14 : decode cX9_laySaying 14 = .ok (.iaload, 1) := by decide +kernel
theorem dX9_laySaying_15 : decode cX9_laySaying 15 = .ok (.invokevirtual 198, 3) := by decide +kernel
theorem dX9_laySaying_18 : decode cX9_laySaying 18 = .ok (.iconst 0, 1) := by decide +kernel
theorem dX9_laySaying_19 : decode cX9_laySaying 19 = .ok (.istore_n 1, 1) := by decide +kernel
theorem dX9_laySaying_20 : decode cX9_laySaying 20 = .ok (.iload_n 1, 1) := by decide +kernel
theorem dX9_laySaying_21 : decode cX9_laySaying 21 = .ok (.aload_n 0, 1) := by decide +kernel
theorem dX9_laySaying_22 : decode cX9_laySaying 22 = .ok (.getfield 157, 3) := by decide +kernel
theorem dX9_laySaying_25 : decode cX9_laySaying 25 = .ok (.if_icmp .ge 21, 3) := by decide +kernel
theorem dX9_laySaying_28 : decode cX9_laySaying 28 = .ok (.aload_n 0, 1) := by decide +kernel
theorem dX9_laySaying_29 : decode cX9_laySaying 29 = .ok (.getfield 70, 3) := by decide +kernel
theorem dX9_laySaying_32 : decode cX9_laySaying 32 = .ok (.iload_n 1, 1) := by decide +kernel
theorem dX9_laySaying_33 : decode cX9_laySaying 33 = .ok (.aload_n 0, 1) := by decide +kernel
theorem dX9_laySaying_34 : decode cX9_laySaying 34 = .ok (.getfield 40, 3) := by decide +kernel
theorem dX9_laySaying_37 : decode cX9_laySaying 37 = .ok (.iload_n 1, 1) := by decide +kernel
theorem dX9_laySaying_38 : decode cX9_laySaying 38 = .ok (.iaload, 1) := by decide +kernel
theorem dX9_laySaying_39 : decode cX9_laySaying 39 = .ok (.iastore, 1) := by decide +kernel
theorem dX9_laySaying_40 : decode cX9_laySaying 40 = .ok (.iinc 1 1, 3) := by decide +kernel
theorem dX9_laySaying_43 : decode cX9_laySaying 43 = .ok (.goto (-23), 3) := by decide +kernel
theorem dX9_laySaying_46 : decode cX9_laySaying 46 = .ok (.aload_n 0, 1) := by decide +kernel
theorem dX9_laySaying_47 : decode cX9_laySaying 47 = .ok (.aload_n 0, 1) := by decide +kernel
theorem dX9_laySaying_48 : decode cX9_laySaying 48 = .ok (.getfield 37, 3) := by decide +kernel
theorem dX9_laySaying_51 : decode cX9_laySaying 51 = .ok (.iconst 0, 1) := by decide +kernel
theorem dX9_laySaying_52 : decode cX9_laySaying 52 = .ok (.iaload, 1) := by decide +kernel
theorem dX9_laySaying_53 : decode cX9_laySaying 53 = .ok (.invokevirtual 220, 3) := by decide +kernel
theorem dX9_laySaying_56 : decode cX9_laySaying 56 = .ok (.return_, 1) := by decide +kernel
theorem dX9_soundSo_0 : decode cX9_soundSo 0 = .ok (.aload_n 0, 1) := by decide +kernel
theorem dX9_soundSo_1 : decode cX9_soundSo 1 = .ok (.getfield 31, 3) := by decide +kernel
theorem dX9_soundSo_4 : decode cX9_soundSo 4 = .ok (.iconst 0, 1) := by decide +kernel
theorem dX9_soundSo_5 : decode cX9_soundSo 5 = .ok (.iaload, 1) := by decide +kernel
theorem dX9_soundSo_6 : decode cX9_soundSo 6 = .ok (.ifCond .ne 7, 3) := by decide +kernel
theorem dX9_soundSo_9 : decode cX9_soundSo 9 = .ok (.ldc2_w 223, 3) := by decide +kernel
theorem dX9_soundSo_12 : decode cX9_soundSo 12 = .ok (.lreturn, 1) := by decide +kernel
theorem dX9_soundSo_13 : decode cX9_soundSo 13 = .ok (.aload_n 0, 1) := by decide +kernel
theorem dX9_soundSo_14 : decode cX9_soundSo 14 = .ok (.invokevirtual 225, 3) := by decide +kernel
theorem dX9_soundSo_17 : decode cX9_soundSo 17 = .ok (.aload_n 0, 1) := by decide +kernel
theorem dX9_soundSo_18 : decode cX9_soundSo 18 = .ok (.getfield 80, 3) := by decide +kernel
theorem dX9_soundSo_21 : decode cX9_soundSo 21 = .ok (.iconst 0, 1) := by decide +kernel
theorem dX9_soundSo_22 : decode cX9_soundSo 22 = .ok (.laload, 1) := by decide +kernel
theorem dX9_soundSo_23 : decode cX9_soundSo 23 = .ok (.lreturn, 1) := by decide +kernel
theorem dX9_rivals_0 : decode cX9_rivals 0 = .ok (.aload_n 0, 1) := by decide +kernel
theorem dX9_rivals_1 : decode cX9_rivals 1 = .ok (.getfield 31, 3) := by decide +kernel
theorem dX9_rivals_4 : decode cX9_rivals 4 = .ok (.iconst 0, 1) := by decide +kernel
theorem dX9_rivals_5 : decode cX9_rivals 5 = .ok (.iaload, 1) := by decide +kernel
theorem dX9_rivals_6 : decode cX9_rivals 6 = .ok (.ifCond .ne 7, 3) := by decide +kernel
theorem dX9_rivals_9 : decode cX9_rivals 9 = .ok (.ldc2_w 223, 3) := by decide +kernel
theorem dX9_rivals_12 : decode cX9_rivals 12 = .ok (.lreturn, 1) := by decide +kernel
theorem dX9_rivals_13 : decode cX9_rivals 13 = .ok (.aload_n 0, 1) := by decide +kernel
theorem dX9_rivals_14 : decode cX9_rivals 14 = .ok (.invokevirtual 225, 3) := by decide +kernel
theorem dX9_rivals_17 : decode cX9_rivals 17 = .ok (.aload_n 0, 1) := by decide +kernel
theorem dX9_rivals_18 : decode cX9_rivals 18 = .ok (.getfield 76, 3) := by decide +kernel
theorem dX9_rivals_21 : decode cX9_rivals 21 = .ok (.iconst 0, 1) := by decide +kernel
theorem dX9_rivals_22 : decode cX9_rivals 22 = .ok (.laload, 1) := by decide +kernel
theorem dX9_rivals_23 : decode cX9_rivals 23 = .ok (.lreturn, 1) := by decide +kernel
theorem dX9_nearest_0 : decode cX9_nearest 0 = .ok (.iload_n 1, 1) := by decide +kernel
theorem dX9_nearest_1 : decode cX9_nearest 1 = .ok (.invokestatic 148, 3) := by decide +kernel
theorem dX9_nearest_4 : decode cX9_nearest 4 = .ok (.ifCond .ne 5, 3) := by decide +kernel
theorem dX9_nearest_7 : decode cX9_nearest 7 = .ok (.iconst (-1), 1) := by decide +kernel
theorem dX9_nearest_8 : decode cX9_nearest 8 = .ok (.ireturn, 1) := by decide +kernel
theorem dX9_nearest_9 : decode cX9_nearest 9 = .ok (.aload_n 0, 1) := by decide +kernel
theorem dX9_nearest_10 : decode cX9_nearest 10 = .ok (.getfield 31, 3) := by decide +kernel
theorem dX9_nearest_13 : decode cX9_nearest 13 = .ok (.iconst 0, 1) := by decide +kernel
theorem dX9_nearest_14 : decode cX9_nearest 14 = .ok (.iaload, 1) := by decide +kernel
theorem dX9_nearest_15 : decode cX9_nearest 15 = .ok (.ifCond .ne 6, 3) := by decide +kernel
theorem dX9_nearest_18 : decode cX9_nearest 18 = .ok (.bipush (-2), 2) := by decide +kernel
theorem dX9_nearest_20 : decode cX9_nearest 20 = .ok (.ireturn, 1) := by decide +kernel
theorem dX9_nearest_21 : decode cX9_nearest 21 = .ok (.aload_n 0, 1) := by decide +kernel
theorem dX9_nearest_22 : decode cX9_nearest 22 = .ok (.invokevirtual 225, 3) := by decide +kernel
theorem dX9_nearest_25 : decode cX9_nearest 25 = .ok (.aload_n 0, 1) := by decide +kernel
theorem dX9_nearest_26 : decode cX9_nearest 26 = .ok (.getfield 37, 3) := by decide +kernel
theorem dX9_nearest_29 : decode cX9_nearest 29 = .ok (.iconst 0, 1) := by decide +kernel
theorem dX9_nearest_30 : decode cX9_nearest 30 = .ok (.iaload, 1) := by decide +kernel
theorem dX9_nearest_31 : decode cX9_nearest 31 = .ok (.istore_n 2, 1) := by decide +kernel
theorem dX9_nearest_32 : decode cX9_nearest 32 = .ok (.iconst 0, 1) := by decide +kernel
theorem dX9_nearest_33 : decode cX9_nearest 33 = .ok (.istore_n 3, 1) := by decide +kernel
theorem dX9_nearest_34 : decode cX9_nearest 34 = .ok (.iload_n 3, 1) := by decide +kernel
theorem dX9_nearest_35 : decode cX9_nearest 35 = .ok (.iload_n 2, 1) := by decide +kernel
theorem dX9_nearest_36 : decode cX9_nearest 36 = .ok (.if_icmp .ge 107, 3) := by decide +kernel
theorem dX9_nearest_39 : decode cX9_nearest 39 = .ok (.iload_n 3, 1) := by decide +kernel
theorem dX9_nearest_40 : decode cX9_nearest 40 = .ok (.iconst 1, 1) := by decide +kernel
theorem dX9_nearest_41 : decode cX9_nearest 41 = .ok (.if_icmp .le 14, 3) := by decide +kernel
theorem dX9_nearest_44 : decode cX9_nearest 44 = .ok (.aload_n 0, 1) := by decide +kernel
theorem dX9_nearest_45 : decode cX9_nearest 45 = .ok (.getfield 67, 3) := by decide +kernel
theorem dX9_nearest_48 : decode cX9_nearest 48 = .ok (.iload_n 3, 1) := by decide +kernel
theorem dX9_nearest_49 : decode cX9_nearest 49 = .ok (.iconst 2, 1) := by decide +kernel
theorem dX9_nearest_50 : decode cX9_nearest 50 = .ok (.isub, 1) := by decide +kernel
theorem dX9_nearest_51 : decode cX9_nearest 51 = .ok (.iaload, 1) := by decide +kernel
theorem dX9_nearest_52 : decode cX9_nearest 52 = .ok (.goto 4, 3) := by decide +kernel
theorem dX9_nearest_55 : decode cX9_nearest 55 = .ok (.iconst 0, 1) := by decide +kernel
theorem dX9_nearest_56 : decode cX9_nearest 56 = .ok (.istore 4, 2) := by decide +kernel
theorem dX9_nearest_58 : decode cX9_nearest 58 = .ok (.iload_n 3, 1) := by decide +kernel
theorem dX9_nearest_59 : decode cX9_nearest 59 = .ok (.ifCond .le 14, 3) := by decide +kernel
theorem dX9_nearest_62 : decode cX9_nearest 62 = .ok (.aload_n 0, 1) := by decide +kernel
theorem dX9_nearest_63 : decode cX9_nearest 63 = .ok (.getfield 67, 3) := by decide +kernel
theorem dX9_nearest_66 : decode cX9_nearest 66 = .ok (.iload_n 3, 1) := by decide +kernel
theorem dX9_nearest_67 : decode cX9_nearest 67 = .ok (.iconst 1, 1) := by decide +kernel
theorem dX9_nearest_68 : decode cX9_nearest 68 = .ok (.isub, 1) := by decide +kernel
theorem dX9_nearest_69 : decode cX9_nearest 69 = .ok (.iaload, 1) := by decide +kernel
theorem dX9_nearest_70 : decode cX9_nearest 70 = .ok (.goto 4, 3) := by decide +kernel
theorem dX9_nearest_73 : decode cX9_nearest 73 = .ok (.iconst 0, 1) := by decide +kernel
theorem dX9_nearest_74 : decode cX9_nearest 74 = .ok (.istore 5, 2) := by decide +kernel
theorem dX9_nearest_76 : decode cX9_nearest 76 = .ok (.iconst 0, 1) := by decide +kernel
theorem dX9_nearest_77 : decode cX9_nearest 77 = .ok (.istore 6, 2) := by decide +kernel
theorem dX9_nearest_79 : decode cX9_nearest 79 = .ok (.aload_n 0, 1) := by decide +kernel
theorem dX9_nearest_80 : decode cX9_nearest 80 = .ok (.getfield 67, 3) := by decide +kernel
theorem dX9_nearest_83 : decode cX9_nearest 83 = .ok (.iload_n 3, 1) := by decide +kernel
theorem dX9_nearest_84 : decode cX9_nearest 84 = .ok (.iconst 0, 1) := by decide +kernel
theorem dX9_nearest_85 : decode cX9_nearest 85 = .ok (.iastore, 1) := by decide +kernel
theorem dX9_nearest_86 : decode cX9_nearest 86 = .ok (.aload_n 0, 1) := by decide +kernel
theorem dX9_nearest_87 : decode cX9_nearest 87 = .ok (.iload_n 3, 1) := by decide +kernel
theorem dX9_nearest_88 : decode cX9_nearest 88 = .ok (.invokevirtual 217, 3) := by decide +kernel
theorem dX9_nearest_91 : decode cX9_nearest 91 = .ok (.aload_n 0, 1) := by decide +kernel
theorem dX9_nearest_92 : decode cX9_nearest 92 = .ok (.getfield 73, 3) := by decide +kernel
theorem dX9_nearest_95 : decode cX9_nearest 95 = .ok (.iload_n 3, 1) := by decide +kernel
theorem dX9_nearest_96 : decode cX9_nearest 96 = .ok (.iconst 1, 1) := by decide +kernel
theorem dX9_nearest_97 : decode cX9_nearest 97 = .ok (.iadd, 1) := by decide +kernel
theorem dX9_nearest_98 : decode cX9_nearest 98 = .ok (.iload 5, 2) := by decide +kernel
theorem dX9_nearest_100 : decode cX9_nearest 100 = .ok (.iload 6, 2) := by decide +kernel
theorem dX9_nearest_102 : decode cX9_nearest 102 = .ok (.invokestatic 213, 3) := by decide +kernel
theorem dX9_nearest_105 : decode cX9_nearest 105 = .ok (.iaload, 1) := by decide +kernel
theorem dX9_nearest_106 : decode cX9_nearest 106 = .ok (.iadd, 1) := by decide +kernel
theorem dX9_nearest_107 : decode cX9_nearest 107 = .ok (.aload_n 0, 1) := by decide +kernel
theorem dX9_nearest_108 : decode cX9_nearest 108 = .ok (.getfield 73, 3) := by decide +kernel
theorem dX9_nearest_111 : decode cX9_nearest 111 = .ok (.iload_n 3, 1) := by decide +kernel
theorem dX9_nearest_112 : decode cX9_nearest 112 = .ok (.iload 4, 2) := by decide +kernel
theorem dX9_nearest_114 : decode cX9_nearest 114 = .ok (.iload 5, 2) := by decide +kernel
theorem dX9_nearest_116 : decode cX9_nearest 116 = .ok (.invokestatic 213, 3) := by decide +kernel
theorem dX9_nearest_119 : decode cX9_nearest 119 = .ok (.iaload, 1) := by decide +kernel
theorem dX9_nearest_120 : decode cX9_nearest 120 = .ok (.if_icmp .eq 17, 3) := by decide +kernel
theorem dX9_nearest_123 : decode cX9_nearest 123 = .ok (.iinc 6 1, 3) := by decide +kernel
theorem dX9_nearest_126 : decode cX9_nearest 126 = .ok (.aload_n 0, 1) := by decide +kernel
theorem dX9_nearest_127 : decode cX9_nearest 127 = .ok (.getfield 67, 3) := by decide +kernel
theorem dX9_nearest_130 : decode cX9_nearest 130 = .ok (.iload_n 3, 1) := by decide +kernel
theorem dX9_nearest_131 : decode cX9_nearest 131 = .ok (.iload 6, 2) := by decide +kernel
theorem dX9_nearest_133 : decode cX9_nearest 133 = .ok (.iastore, 1) := by decide +kernel
theorem dX9_nearest_134 : decode cX9_nearest 134 = .ok (.goto (-48), 3) := by decide +kernel
theorem dX9_nearest_137 : decode cX9_nearest 137 = .ok (.iinc 3 1, 3) := by decide +kernel
theorem dX9_nearest_140 : decode cX9_nearest 140 = .ok (.goto (-106), 3) := by decide +kernel
theorem dX9_nearest_143 : decode cX9_nearest 143 = .ok (.aload_n 0, 1) := by decide +kernel
theorem dX9_nearest_144 : decode cX9_nearest 144 = .ok (.getfield 25, 3) := by decide +kernel
theorem dX9_nearest_147 : decode cX9_nearest 147 = .ok (.iload_n 1, 1) := by decide +kernel
theorem dX9_nearest_148 : decode cX9_nearest 148 = .ok (.iload_n 2, 1) := by decide +kernel
theorem dX9_nearest_149 : decode cX9_nearest 149 = .ok (.iastore, 1) := by decide +kernel
theorem dX9_nearest_150 : decode cX9_nearest 150 = .ok (.iconst 0, 1) := by decide +kernel
theorem dX9_nearest_151 : decode cX9_nearest 151 = .ok (.istore_n 3, 1) := by decide +kernel
theorem dX9_nearest_152 : decode cX9_nearest 152 = .ok (.iload_n 3, 1) := by decide +kernel
theorem dX9_nearest_153 : decode cX9_nearest 153 = .ok (.iload_n 2, 1) := by decide +kernel
theorem dX9_nearest_154 : decode cX9_nearest 154 = .ok (.if_icmp .ge 26, 3) := by decide +kernel
theorem dX9_nearest_157 : decode cX9_nearest 157 = .ok (.aload_n 0, 1) := by decide +kernel
theorem dX9_nearest_158 : decode cX9_nearest 158 = .ok (.getfield 28, 3) := by decide +kernel
theorem dX9_nearest_161 : decode cX9_nearest 161 = .ok (.bipush 8, 2) := by decide +kernel
theorem dX9_nearest_163 : decode cX9_nearest 163 = .ok (.iload_n 1, 1) := by decide +kernel
theorem dX9_nearest_164 : decode cX9_nearest 164 = .ok (.imul, 1) := by decide +kernel
theorem dX9_nearest_165 : decode cX9_nearest 165 = .ok (.iload_n 3, 1) := by decide +kernel
theorem dX9_nearest_166 : decode cX9_nearest 166 = .ok (.iadd, 1) := by decide +kernel
theorem dX9_nearest_167 : decode cX9_nearest 167 = .ok (.aload_n 0, 1) := by decide +kernel
theorem dX9_nearest_168 : decode cX9_nearest 168 = .ok (.getfield 67, 3) := by decide +kernel
theorem dX9_nearest_171 : decode cX9_nearest 171 = .ok (.iload_n 3, 1) := by decide +kernel
theorem dX9_nearest_172 : decode cX9_nearest 172 = .ok (.iaload, 1) := by decide +kernel
theorem dX9_nearest_173 : decode cX9_nearest 173 = .ok (.iastore, 1) := by decide +kernel
theorem dX9_nearest_174 : decode cX9_nearest 174 = .ok (.iinc 3 1, 3) := by decide +kernel
theorem dX9_nearest_177 : decode cX9_nearest 177 = .ok (.goto (-25), 3) := by decide +kernel
theorem dX9_nearest_180 : decode cX9_nearest 180 = .ok (.aload_n 0, 1) := by decide +kernel
theorem dX9_nearest_181 : decode cX9_nearest 181 = .ok (.getfield 73, 3) := by decide +kernel
theorem dX9_nearest_184 : decode cX9_nearest 184 = .ok (.iconst 0, 1) := by decide +kernel
theorem dX9_nearest_185 : decode cX9_nearest 185 = .ok (.iaload, 1) := by decide +kernel
theorem dX9_nearest_186 : decode cX9_nearest 186 = .ok (.ireturn, 1) := by decide +kernel
theorem dX9_farOf_0 : decode cX9_farOf 0 = .ok (.aload_n 0, 1) := by decide +kernel
theorem dX9_farOf_1 : decode cX9_farOf 1 = .ok (.getfield 25, 3) := by decide +kernel
theorem dX9_farOf_4 : decode cX9_farOf 4 = .ok (.iload_n 1, 1) := by decide +kernel
theorem dX9_farOf_5 : decode cX9_farOf 5 = .ok (.iaload, 1) := by decide +kernel
theorem dX9_farOf_6 : decode cX9_farOf 6 = .ok (.istore_n 3, 1) := by decide +kernel
theorem dX9_farOf_7 : decode cX9_farOf 7 = .ok (.aload_n 0, 1) := by decide +kernel
theorem dX9_farOf_8 : decode cX9_farOf 8 = .ok (.getfield 13, 3) := by decide +kernel
theorem dX9_farOf_11 : decode cX9_farOf 11 = .ok (.iconst 0, 1) := by decide +kernel
theorem dX9_farOf_12 : decode cX9_farOf 12 = .ok (.iaload, 1) := by decide +kernel
theorem dX9_farOf_13 : decode cX9_farOf 13 = .ok (.iconst 2, 1) := by decide +kernel
theorem dX9_farOf_14 : decode cX9_farOf 14 = .ok (.if_icmp .ge 6, 3) := by decide +kernel
theorem dX9_farOf_17 : decode cX9_farOf 17 = .ok (.bipush (-4), 2) := by decide +kernel
theorem dX9_farOf_19 : decode cX9_farOf 19 = .ok (.ireturn, 1) := by decide +kernel
theorem dX9_farOf_20 : decode cX9_farOf 20 = .ok (.aload_n 0, 1) := by decide +kernel
theorem dX9_farOf_21 : decode cX9_farOf 21 = .ok (.iload_n 2, 1) := by decide +kernel
theorem dX9_farOf_22 : decode cX9_farOf 22 = .ok (.iload_n 3, 1) := by decide +kernel
theorem dX9_farOf_23 : decode cX9_farOf 23 = .ok (.invokevirtual 198, 3) := by decide +kernel
theorem dX9_farOf_26 : decode cX9_farOf 26 = .ok (.aload_n 0, 1) := by decide +kernel
theorem dX9_farOf_27 : decode cX9_farOf 27 = .ok (.iload_n 1, 1) := by decide +kernel
theorem dX9_farOf_28 : decode cX9_farOf 28 = .ok (.invokevirtual 201, 3) := by decide +kernel
theorem dX9_farOf_31 : decode cX9_farOf 31 = .ok (.iconst 0, 1) := by decide +kernel
theorem dX9_farOf_32 : decode cX9_farOf 32 = .ok (.istore 4, 2) := by decide +kernel
theorem dX9_farOf_34 : decode cX9_farOf 34 = .ok (.iload 4, 2) := by decide +kernel
theorem dX9_farOf_36 : decode cX9_farOf 36 = .ok (.aload_n 0, 1) := by decide +kernel
theorem dX9_farOf_37 : decode cX9_farOf 37 = .ok (.getfield 157, 3) := by decide +kernel
theorem dX9_farOf_40 : decode cX9_farOf 40 = .ok (.if_icmp .ge 22, 3) := by decide +kernel
theorem dX9_farOf_43 : decode cX9_farOf 43 = .ok (.aload_n 0, 1) := by decide +kernel
theorem dX9_farOf_44 : decode cX9_farOf 44 = .ok (.getfield 70, 3) := by decide +kernel
theorem dX9_farOf_47 : decode cX9_farOf 47 = .ok (.iload 4, 2) := by decide +kernel
theorem dX9_farOf_49 : decode cX9_farOf 49 = .ok (.aload_n 0, 1) := by decide +kernel
theorem dX9_farOf_50 : decode cX9_farOf 50 = .ok (.iload 4, 2) := by decide +kernel
theorem dX9_farOf_52 : decode cX9_farOf 52 = .ok (.invokevirtual 204, 3) := by decide +kernel
theorem dX9_farOf_55 : decode cX9_farOf 55 = .ok (.iastore, 1) := by decide +kernel
theorem dX9_farOf_56 : decode cX9_farOf 56 = .ok (.iinc 4 1, 3) := by decide +kernel
theorem dX9_farOf_59 : decode cX9_farOf 59 = .ok (.goto (-25), 3) := by decide +kernel
theorem dX9_farOf_62 : decode cX9_farOf 62 = .ok (.aload_n 0, 1) := by decide +kernel
theorem dX9_farOf_63 : decode cX9_farOf 63 = .ok (.iload_n 3, 1) := by decide +kernel
theorem dX9_farOf_64 : decode cX9_farOf 64 = .ok (.invokevirtual 220, 3) := by decide +kernel
theorem dX9_farOf_67 : decode cX9_farOf 67 = .ok (.ldc 216, 2) := by decide +kernel
theorem dX9_farOf_69 : decode cX9_farOf 69 = .ok (.istore 4, 2) := by decide +kernel
theorem dX9_farOf_71 : decode cX9_farOf 71 = .ok (.iconst 0, 1) := by decide +kernel
theorem dX9_farOf_72 : decode cX9_farOf 72 = .ok (.istore 5, 2) := by decide +kernel
theorem dX9_farOf_74 : decode cX9_farOf 74 = .ok (.iload 5, 2) := by decide +kernel
theorem dX9_farOf_76 : decode cX9_farOf 76 = .ok (.iload_n 3, 1) := by decide +kernel
theorem dX9_farOf_77 : decode cX9_farOf 77 = .ok (.if_icmp .ge 126, 3) := by decide +kernel
theorem dX9_farOf_80 : decode cX9_farOf 80 = .ok (.aload_n 0, 1) := by decide +kernel
theorem dX9_farOf_81 : decode cX9_farOf 81 = .ok (.iload_n 1, 1) := by decide +kernel
theorem dX9_farOf_82 : decode cX9_farOf 82 = .ok (.invokevirtual 201, 3) := by decide +kernel
theorem dX9_farOf_85 : decode cX9_farOf 85 = .ok (.iload 5, 2) := by decide +kernel
theorem dX9_farOf_87 : decode cX9_farOf 87 = .ok (.ifCond .le 15, 3) := by decide +kernel
theorem dX9_farOf_90 : decode cX9_farOf 90 = .ok (.aload_n 0, 1) := by decide +kernel
theorem dX9_farOf_91 : decode cX9_farOf 91 = .ok (.getfield 67, 3) := by decide +kernel
theorem dX9_farOf_94 : decode cX9_farOf 94 = .ok (.iload 5, 2) := by decide +kernel
theorem dX9_farOf_96 : decode cX9_farOf 96 = .ok (.iconst 1, 1) := by decide +kernel
theorem dX9_farOf_97 : decode cX9_farOf 97 = .ok (.isub, 1) := by decide +kernel
theorem dX9_farOf_98 : decode cX9_farOf 98 = .ok (.iaload, 1) := by decide +kernel
theorem dX9_farOf_99 : decode cX9_farOf 99 = .ok (.goto 4, 3) := by decide +kernel
theorem dX9_farOf_102 : decode cX9_farOf 102 = .ok (.iconst 0, 1) := by decide +kernel
theorem dX9_farOf_103 : decode cX9_farOf 103 = .ok (.istore 6, 2) := by decide +kernel
theorem dX9_farOf_105 : decode cX9_farOf 105 = .ok (.iconst 0, 1) := by decide +kernel
theorem dX9_farOf_106 : decode cX9_farOf 106 = .ok (.istore 7, 2) := by decide +kernel
theorem dX9_farOf_108 : decode cX9_farOf 108 = .ok (.iload 7, 2) := by decide +kernel
theorem dX9_farOf_110 : decode cX9_farOf 110 = .ok (.aload_n 0, 1) := by decide +kernel
theorem dX9_farOf_111 : decode cX9_farOf 111 = .ok (.getfield 13, 3) := by decide +kernel
theorem dX9_farOf_114 : decode cX9_farOf 114 = .ok (.iconst 0, 1) := by decide +kernel
theorem dX9_farOf_115 : decode cX9_farOf 115 = .ok (.iaload, 1) := by decide +kernel
theorem dX9_farOf_116 : decode cX9_farOf 116 = .ok (.if_icmp .ge 81, 3) := by decide +kernel
theorem dX9_farOf_119 : decode cX9_farOf 119 = .ok (.aload_n 0, 1) := by decide +kernel
theorem dX9_farOf_120 : decode cX9_farOf 120 = .ok (.getfield 67, 3) := by decide +kernel
theorem dX9_farOf_123 : decode cX9_farOf 123 = .ok (.iload 5, 2) := by decide +kernel
theorem dX9_farOf_125 : decode cX9_farOf 125 = .ok (.iload 7, 2) := by decide +kernel
theorem dX9_farOf_127 : decode cX9_farOf 127 = .ok (.iastore, 1) := by decide +kernel
theorem dX9_farOf_128 : decode cX9_farOf 128 = .ok (.iload 7, 2) := by decide +kernel
theorem dX9_farOf_130 : decode cX9_farOf 130 = .ok (.aload_n 0, 1) := by decide +kernel
theorem dX9_farOf_131 : decode cX9_farOf 131 = .ok (.getfield 28, 3) := by decide +kernel
theorem dX9_farOf_134 : decode cX9_farOf 134 = .ok (.bipush 8, 2) := by decide +kernel
theorem dX9_farOf_136 : decode cX9_farOf 136 = .ok (.iload_n 1, 1) := by decide +kernel
theorem dX9_farOf_137 : decode cX9_farOf 137 = .ok (.imul, 1) := by decide +kernel
theorem dX9_farOf_138 : decode cX9_farOf 138 = .ok (.iload 5, 2) := by decide +kernel
theorem dX9_farOf_140 : decode cX9_farOf 140 = .ok (.iadd, 1) := by decide +kernel
theorem dX9_farOf_141 : decode cX9_farOf 141 = .ok (.iaload, 1) := by decide +kernel
theorem dX9_farOf_142 : decode cX9_farOf 142 = .ok (.if_icmp .ne 8, 3) := by decide +kernel
theorem dX9_farOf_145 : decode cX9_farOf 145 = .ok (.iload 4, 2) := by decide +kernel
theorem dX9_farOf_147 : decode cX9_farOf 147 = .ok (.goto 26, 3) := by decide +kernel
theorem dX9_farOf_150 : decode cX9_farOf 150 = .ok (.aload_n 0, 1) := by decide +kernel
theorem dX9_farOf_151 : decode cX9_farOf 151 = .ok (.iload 5, 2) := by decide +kernel
theorem dX9_farOf_153 : decode cX9_farOf 153 = .ok (.invokevirtual 217, 3) := by decide +kernel
theorem dX9_farOf_156 : decode cX9_farOf 156 = .ok (.aload_n 0, 1) := by decide +kernel
theorem dX9_farOf_157 : decode cX9_farOf 157 = .ok (.getfield 73, 3) := by decide +kernel
theorem dX9_farOf_160 : decode cX9_farOf 160 = .ok (.iload 5, 2) := by decide +kernel
theorem dX9_farOf_162 : decode cX9_farOf 162 = .ok (.iconst 1, 1) := by decide +kernel
theorem dX9_farOf_163 : decode cX9_farOf 163 = .ok (.iadd, 1) := by decide +kernel
theorem dX9_farOf_164 : decode cX9_farOf 164 = .ok (.iload 6, 2) := by decide +kernel
theorem dX9_farOf_166 : decode cX9_farOf 166 = .ok (.iload 7, 2) := by decide +kernel
theorem dX9_farOf_168 : decode cX9_farOf 168 = .ok (.invokestatic 213, 3) := by decide +kernel
theorem dX9_farOf_171 : decode cX9_farOf 171 = .ok (.iaload, 1) := by decide +kernel
theorem dX9_farOf_172 : decode cX9_farOf 172 = .ok (.iadd, 1) := by decide +kernel
theorem dX9_farOf_173 : decode cX9_farOf 173 = .ok (.istore 8, 2) := by decide +kernel
theorem dX9_farOf_175 : decode cX9_farOf 175 = .ok (.iload 8, 2) := by decide +kernel
theorem dX9_farOf_177 : decode cX9_farOf 177 = .ok (.iload 4, 2) := by decide +kernel
theorem dX9_farOf_179 : decode cX9_farOf 179 = .ok (.if_icmp .ge 8, 3) := by decide +kernel
theorem dX9_farOf_182 : decode cX9_farOf 182 = .ok (.iload 8, 2) := by decide +kernel
theorem dX9_farOf_184 : decode cX9_farOf 184 = .ok (.goto 5, 3) := by decide +kernel
theorem dX9_farOf_187 : decode cX9_farOf 187 = .ok (.iload 4, 2) := by decide +kernel
theorem dX9_farOf_189 : decode cX9_farOf 189 = .ok (.istore 4, 2) := by decide +kernel
theorem dX9_farOf_191 : decode cX9_farOf 191 = .ok (.iinc 7 1, 3) := by decide +kernel
theorem dX9_farOf_194 : decode cX9_farOf 194 = .ok (.goto (-86), 3) := by decide +kernel
theorem dX9_farOf_197 : decode cX9_farOf 197 = .ok (.iinc 5 1, 3) := by decide +kernel
theorem dX9_farOf_200 : decode cX9_farOf 200 = .ok (.goto (-126), 3) := by decide +kernel
theorem dX9_farOf_203 : decode cX9_farOf 203 = .ok (.iload 4, 2) := by decide +kernel
theorem dX9_farOf_205 : decode cX9_farOf 205 = .ok (.ireturn, 1) := by decide +kernel
theorem dX9_far_0 : decode cX9_far 0 = .ok (.iload_n 1, 1) := by decide +kernel
theorem dX9_far_1 : decode cX9_far 1 = .ok (.invokestatic 148, 3) := by decide +kernel
theorem dX9_far_4 : decode cX9_far 4 = .ok (.ifCond .eq 27, 3) := by decide +kernel
theorem dX9_far_7 : decode cX9_far 7 = .ok (.iload_n 2, 1) := by decide +kernel
theorem dX9_far_8 : decode cX9_far 8 = .ok (.i2l, 1) := by decide +kernel
theorem dX9_far_9 : decode cX9_far 9 = .ok (.lconst 0, 1) := by decide +kernel
theorem dX9_far_10 : decode cX9_far 10 = .ok (.ldc2_w 228, 3) := by decide +kernel
theorem dX9_far_13 : decode cX9_far 13 = .ok (.invokestatic 92, 3) := by decide +kernel
theorem dX9_far_16 : decode cX9_far 16 = .ok (.ifCond .eq 15, 3) := by decide +kernel
theorem dX9_far_19 : decode cX9_far 19 = .ok (.iload_n 3, 1) := by decide +kernel
theorem dX9_far_20 : decode cX9_far 20 = .ok (.i2l, 1) := by decide +kernel
theorem dX9_far_21 : decode cX9_far 21 = .ok (.lconst 0, 1) := by decide +kernel
theorem dX9_far_22 : decode cX9_far 22 = .ok (.ldc2_w 113, 3) := by decide +kernel
theorem dX9_far_25 : decode cX9_far 25 = .ok (.invokestatic 92, 3) := by decide +kernel
theorem dX9_far_28 : decode cX9_far 28 = .ok (.ifCond .ne 5, 3) := by decide +kernel
theorem dX9_far_31 : decode cX9_far 31 = .ok (.iconst (-1), 1) := by decide +kernel
theorem dX9_far_32 : decode cX9_far 32 = .ok (.ireturn, 1) := by decide +kernel
theorem dX9_far_33 : decode cX9_far 33 = .ok (.aload_n 0, 1) := by decide +kernel
theorem dX9_far_34 : decode cX9_far 34 = .ok (.getfield 25, 3) := by decide +kernel
theorem dX9_far_37 : decode cX9_far 37 = .ok (.iload_n 1, 1) := by decide +kernel
theorem dX9_far_38 : decode cX9_far 38 = .ok (.iaload, 1) := by decide +kernel
theorem dX9_far_39 : decode cX9_far 39 = .ok (.ifCond .ne 6, 3) := by decide +kernel
theorem dX9_far_42 : decode cX9_far 42 = .ok (.bipush (-2), 2) := by decide +kernel
theorem dX9_far_44 : decode cX9_far 44 = .ok (.ireturn, 1) := by decide +kernel
theorem dX9_far_45 : decode cX9_far 45 = .ok (.aload_n 0, 1) := by decide +kernel
theorem dX9_far_46 : decode cX9_far 46 = .ok (.iload_n 1, 1) := by decide +kernel
theorem dX9_far_47 : decode cX9_far 47 = .ok (.iload_n 2, 1) := by decide +kernel
theorem dX9_far_48 : decode cX9_far 48 = .ok (.invokevirtual 230, 3) := by decide +kernel
theorem dX9_far_51 : decode cX9_far 51 = .ok (.istore 4, 2) := by decide +kernel
theorem dX9_far_53 : decode cX9_far 53 = .ok (.iload 4, 2) := by decide +kernel
theorem dX9_far_55 : decode cX9_far 55 = .ok (.iconst 1, 1) := by decide +kernel
theorem dX9_far_56 : decode cX9_far 56 = .ok (.if_icmp .ge 15, 3) := by decide +kernel
theorem dX9_far_59 : decode cX9_far 59 = .ok (.iload 4, 2) := by decide +kernel
theorem dX9_far_61 : decode cX9_far 61 = .ok (.ifCond .ge 8, 3) := by decide +kernel
theorem dX9_far_64 : decode cX9_far 64 = .ok (.bipush (-4), 2) := by decide +kernel
theorem dX9_far_66 : decode cX9_far 66 = .ok (.goto 4, 3) := by decide +kernel
theorem dX9_far_69 : decode cX9_far 69 = .ok (.iconst 0, 1) := by decide +kernel
theorem dX9_far_70 : decode cX9_far 70 = .ok (.ireturn, 1) := by decide +kernel
theorem dX9_far_71 : decode cX9_far 71 = .ok (.iload_n 3, 1) := by decide +kernel
theorem dX9_far_72 : decode cX9_far 72 = .ok (.ifCond .ne 8, 3) := by decide +kernel
theorem dX9_far_75 : decode cX9_far 75 = .ok (.iload 4, 2) := by decide +kernel
theorem dX9_far_77 : decode cX9_far 77 = .ok (.goto 21, 3) := by decide +kernel
theorem dX9_far_80 : decode cX9_far 80 = .ok (.iload_n 3, 1) := by decide +kernel
theorem dX9_far_81 : decode cX9_far 81 = .ok (.iconst 1, 1) := by decide +kernel
theorem dX9_far_82 : decode cX9_far 82 = .ok (.if_icmp .ne 10, 3) := by decide +kernel
theorem dX9_far_85 : decode cX9_far 85 = .ok (.iload 4, 2) := by decide +kernel
theorem dX9_far_87 : decode cX9_far 87 = .ok (.iconst 1, 1) := by decide +kernel
theorem dX9_far_88 : decode cX9_far 88 = .ok (.isub, 1) := by decide +kernel
theorem dX9_far_89 : decode cX9_far 89 = .ok (.goto 9, 3) := by decide +kernel
theorem dX9_far_92 : decode cX9_far 92 = .ok (.iload 4, 2) := by decide +kernel
theorem dX9_far_94 : decode cX9_far 94 = .ok (.iconst 1, 1) := by decide +kernel
theorem dX9_far_95 : decode cX9_far 95 = .ok (.isub, 1) := by decide +kernel
theorem dX9_far_96 : decode cX9_far 96 = .ok (.iconst 2, 1) := by decide +kernel
theorem dX9_far_97 : decode cX9_far 97 = .ok (.idiv, 1) := by decide +kernel
theorem dX9_far_98 : decode cX9_far 98 = .ok (.ireturn, 1) := by decide +kernel
theorem dX9_hoursOf_0 : decode cX9_hoursOf 0 = .ok (.iconst 0, 1) := by decide +kernel
theorem dX9_hoursOf_1 : decode cX9_hoursOf 1 = .ok (.istore_n 2, 1) := by decide +kernel
theorem dX9_hoursOf_2 : decode cX9_hoursOf 2 = .ok (.iconst 0, 1) := by decide +kernel
theorem dX9_hoursOf_3 : decode cX9_hoursOf 3 = .ok (.istore_n 3, 1) := by decide +kernel
theorem dX9_hoursOf_4 : decode cX9_hoursOf 4 = .ok (.iload_n 3, 1) := by decide +kernel
theorem dX9_hoursOf_5 : decode cX9_hoursOf 5 = .ok (.iconst 5, 1) := by decide +kernel
theorem dX9_hoursOf_6 : decode cX9_hoursOf 6 = .ok (.if_icmp .ge 30, 3) := by decide +kernel
theorem dX9_hoursOf_9 : decode cX9_hoursOf 9 = .ok (.iload_n 2, 1) := by decide +kernel
theorem dX9_hoursOf_10 : decode cX9_hoursOf 10 = .ok (.iload_n 1, 1) := by decide +kernel
theorem dX9_hoursOf_11 : decode cX9_hoursOf 11 = .ok (.iload_n 3, 1) := by decide +kernel
theorem dX9_hoursOf_12 : decode cX9_hoursOf 12 = .ok (.invokestatic 176, 3) := by decide +kernel
theorem dX9_hoursOf_15 : decode cX9_hoursOf 15 = .ok (.ifCond .eq 12, 3) := by decide +kernel
theorem dX9_hoursOf_18 : decode cX9_hoursOf 18 = .ok (.aload_n 0, 1) := by decide +kernel
theorem dX9_hoursOf_19 : decode cX9_hoursOf 19 = .ok (.getfield 22, 3) := by decide +kernel
theorem dX9_hoursOf_22 : decode cX9_hoursOf 22 = .ok (.iload_n 3, 1) := by decide +kernel
theorem dX9_hoursOf_23 : decode cX9_hoursOf 23 = .ok (.iaload, 1) := by decide +kernel
theorem dX9_hoursOf_24 : decode cX9_hoursOf 24 = .ok (.goto 4, 3) := by decide +kernel
theorem dX9_hoursOf_27 : decode cX9_hoursOf 27 = .ok (.iconst 0, 1) := by decide +kernel
theorem dX9_hoursOf_28 : decode cX9_hoursOf 28 = .ok (.iadd, 1) := by decide +kernel
theorem dX9_hoursOf_29 : decode cX9_hoursOf 29 = .ok (.istore_n 2, 1) := by decide +kernel
theorem dX9_hoursOf_30 : decode cX9_hoursOf 30 = .ok (.iinc 3 1, 3) := by decide +kernel
theorem dX9_hoursOf_33 : decode cX9_hoursOf 33 = .ok (.goto (-29), 3) := by decide +kernel
theorem dX9_hoursOf_36 : decode cX9_hoursOf 36 = .ok (.iload_n 2, 1) := by decide +kernel
theorem dX9_hoursOf_37 : decode cX9_hoursOf 37 = .ok (.ireturn, 1) := by decide +kernel
theorem dX9_best_0 : decode cX9_best 0 = .ok (.iload_n 1, 1) := by decide +kernel
theorem dX9_best_1 : decode cX9_best 1 = .ok (.invokestatic 148, 3) := by decide +kernel
theorem dX9_best_4 : decode cX9_best 4 = .ok (.ifCond .eq 25, 3) := by decide +kernel
theorem dX9_best_7 : decode cX9_best 7 = .ok (.iload_n 2, 1) := by decide +kernel
theorem dX9_best_8 : decode cX9_best 8 = .ok (.i2l, 1) := by decide +kernel
theorem dX9_best_9 : decode cX9_best 9 = .ok (.lconst 0, 1) := by decide +kernel
theorem dX9_best_10 : decode cX9_best 10 = .ok (.ldc2_w 233, 3) := by decide +kernel
theorem dX9_best_13 : decode cX9_best 13 = .ok (.invokestatic 92, 3) := by decide +kernel
theorem dX9_best_16 : decode cX9_best 16 = .ok (.ifCond .eq 13, 3) := by decide +kernel
theorem dX9_best_19 : decode cX9_best 19 = .ok (.iload_n 3, 1) := by decide +kernel
theorem dX9_best_20 : decode cX9_best 20 = .ok (.i2l, 1) := by decide +kernel
theorem dX9_best_21 : decode cX9_best 21 = .ok (.lconst 0, 1) := by decide +kernel
theorem dX9_best_22 : decode cX9_best 22 = .ok (.lconst 1, 1) := by decide +kernel
theorem dX9_best_23 : decode cX9_best 23 = .ok (.invokestatic 92, 3) := by decide +kernel
theorem dX9_best_26 : decode cX9_best 26 = .ok (.ifCond .ne 5, 3) := by decide +kernel
theorem dX9_best_29 : decode cX9_best 29 = .ok (.iconst (-1), 1) := by decide +kernel
theorem dX9_best_30 : decode cX9_best 30 = .ok (.ireturn, 1) := by decide +kernel
theorem dX9_best_31 : decode cX9_best 31 = .ok (.aload_n 0, 1) := by decide +kernel
theorem dX9_best_32 : decode cX9_best 32 = .ok (.getfield 25, 3) := by decide +kernel
theorem dX9_best_35 : decode cX9_best 35 = .ok (.iload_n 1, 1) := by decide +kernel
theorem dX9_best_36 : decode cX9_best 36 = .ok (.iaload, 1) := by decide +kernel
theorem dX9_best_37 : decode cX9_best 37 = .ok (.ifCond .ne 6, 3) := by decide +kernel
theorem dX9_best_40 : decode cX9_best 40 = .ok (.bipush (-2), 2) := by decide +kernel
theorem dX9_best_42 : decode cX9_best 42 = .ok (.ireturn, 1) := by decide +kernel
theorem dX9_best_43 : decode cX9_best 43 = .ok (.aload_n 0, 1) := by decide +kernel
theorem dX9_best_44 : decode cX9_best 44 = .ok (.getfield 13, 3) := by decide +kernel
theorem dX9_best_47 : decode cX9_best 47 = .ok (.iconst 0, 1) := by decide +kernel
theorem dX9_best_48 : decode cX9_best 48 = .ok (.iaload, 1) := by decide +kernel
theorem dX9_best_49 : decode cX9_best 49 = .ok (.iconst 2, 1) := by decide +kernel
theorem dX9_best_50 : decode cX9_best 50 = .ok (.if_icmp .ge 6, 3) := by decide +kernel
theorem dX9_best_53 : decode cX9_best 53 = .ok (.bipush (-4), 2) := by decide +kernel
theorem dX9_best_55 : decode cX9_best 55 = .ok (.ireturn, 1) := by decide +kernel
theorem dX9_best_56 : decode cX9_best 56 = .ok (.iconst 0, 1) := by decide +kernel
theorem dX9_best_57 : decode cX9_best 57 = .ok (.istore 4, 2) := by decide +kernel
theorem dX9_best_59 : decode cX9_best 59 = .ok (.iconst 0, 1) := by decide +kernel
theorem dX9_best_60 : decode cX9_best 60 = .ok (.istore 5, 2) := by decide +kernel
theorem dX9_best_62 : decode cX9_best 62 = .ok (.iconst 1, 1) := by decide +kernel
theorem dX9_best_63 : decode cX9_best 63 = .ok (.istore 6, 2) := by decide +kernel
theorem dX9_best_65 : decode cX9_best 65 = .ok (.iload 6, 2) := by decide +kernel
theorem dX9_best_67 : decode cX9_best 67 = .ok (.bipush 32, 2) := by decide +kernel
theorem dX9_best_69 : decode cX9_best 69 = .ok (.if_icmp .ge 47, 3) := by decide +kernel
theorem dX9_best_72 : decode cX9_best 72 = .ok (.aload_n 0, 1) := by decide +kernel
theorem dX9_best_73 : decode cX9_best 73 = .ok (.iload 6, 2) := by decide +kernel
theorem dX9_best_75 : decode cX9_best 75 = .ok (.invokevirtual 235, 3) := by decide +kernel
theorem dX9_best_78 : decode cX9_best 78 = .ok (.iload_n 2, 1) := by decide +kernel
theorem dX9_best_79 : decode cX9_best 79 = .ok (.if_icmp .gt 13, 3) := by decide +kernel
theorem dX9_best_82 : decode cX9_best 82 = .ok (.aload_n 0, 1) := by decide +kernel
theorem dX9_best_83 : decode cX9_best 83 = .ok (.iload_n 1, 1) := by decide +kernel
theorem dX9_best_84 : decode cX9_best 84 = .ok (.iload 6, 2) := by decide +kernel
theorem dX9_best_86 : decode cX9_best 86 = .ok (.invokevirtual 230, 3) := by decide +kernel
theorem dX9_best_89 : decode cX9_best 89 = .ok (.goto 4, 3) := by decide +kernel
theorem dX9_best_92 : decode cX9_best 92 = .ok (.iconst 0, 1) := by decide +kernel
theorem dX9_best_93 : decode cX9_best 93 = .ok (.istore 7, 2) := by decide +kernel
theorem dX9_best_95 : decode cX9_best 95 = .ok (.iload 7, 2) := by decide +kernel
theorem dX9_best_97 : decode cX9_best 97 = .ok (.iload 5, 2) := by decide +kernel
theorem dX9_best_99 : decode cX9_best 99 = .ok (.if_icmp .le 11, 3) := by decide +kernel
theorem dX9_best_102 : decode cX9_best 102 = .ok (.iload 7, 2) := by decide +kernel
theorem dX9_best_104 : decode cX9_best 104 = .ok (.istore 5, 2) := by decide +kernel
theorem dX9_best_106 : decode cX9_best 106 = .ok (.iload 6, 2) := by decide +kernel
theorem dX9_best_108 : decode cX9_best 108 = .ok (.istore 4, 2) := by decide +kernel
theorem dX9_best_110 : decode cX9_best 110 = .ok (.iinc 6 1, 3) := by decide +kernel
theorem dX9_best_113 : decode cX9_best 113 = .ok (.goto (-48), 3) := by decide +kernel
theorem dX9_best_116 : decode cX9_best 116 = .ok (.iload_n 3, 1) := by decide +kernel
theorem dX9_best_117 : decode cX9_best 117 = .ok (.ifCond .ne 8, 3) := by decide +kernel
theorem dX9_best_120 : decode cX9_best 120 = .ok (.iload 4, 2) := by decide +kernel
theorem dX9_best_122 : decode cX9_best 122 = .ok (.goto 5, 3) := by decide +kernel
theorem dX9_best_125 : decode cX9_best 125 = .ok (.iload 5, 2) := by decide +kernel
theorem dX9_best_127 : decode cX9_best 127 = .ok (.ireturn, 1) := by decide +kernel
theorem dX9_showsBy_0 : decode cX9_showsBy 0 = .ok (.iconst 0, 1) := by decide +kernel
theorem dX9_showsBy_1 : decode cX9_showsBy 1 = .ok (.istore 4, 2) := by decide +kernel
theorem dX9_showsBy_3 : decode cX9_showsBy 3 = .ok (.iconst 0, 1) := by decide +kernel
theorem dX9_showsBy_4 : decode cX9_showsBy 4 = .ok (.istore 5, 2) := by decide +kernel
theorem dX9_showsBy_6 : decode cX9_showsBy 6 = .ok (.iload 5, 2) := by decide +kernel
theorem dX9_showsBy_8 : decode cX9_showsBy 8 = .ok (.iconst 5, 1) := by decide +kernel
theorem dX9_showsBy_9 : decode cX9_showsBy 9 = .ok (.if_icmp .ge 105, 3) := by decide +kernel
theorem dX9_showsBy_12 : decode cX9_showsBy 12 = .ok (.aload_n 0, 1) := by decide +kernel
theorem dX9_showsBy_13 : decode cX9_showsBy 13 = .ok (.iconst 1, 1) := by decide +kernel
theorem dX9_showsBy_14 : decode cX9_showsBy 14 = .ok (.iload 5, 2) := by decide +kernel
theorem dX9_showsBy_16 : decode cX9_showsBy 16 = .ok (.ishl, 1) := by decide +kernel
theorem dX9_showsBy_17 : decode cX9_showsBy 17 = .ok (.aload_n 0, 1) := by decide +kernel
theorem dX9_showsBy_18 : decode cX9_showsBy 18 = .ok (.getfield 25, 3) := by decide +kernel
theorem dX9_showsBy_21 : decode cX9_showsBy 21 = .ok (.iload_n 1, 1) := by decide +kernel
theorem dX9_showsBy_22 : decode cX9_showsBy 22 = .ok (.iaload, 1) := by decide +kernel
theorem dX9_showsBy_23 : decode cX9_showsBy 23 = .ok (.invokevirtual 198, 3) := by decide +kernel
theorem dX9_showsBy_26 : decode cX9_showsBy 26 = .ok (.iconst 0, 1) := by decide +kernel
theorem dX9_showsBy_27 : decode cX9_showsBy 27 = .ok (.istore 6, 2) := by decide +kernel
theorem dX9_showsBy_29 : decode cX9_showsBy 29 = .ok (.iconst 0, 1) := by decide +kernel
theorem dX9_showsBy_30 : decode cX9_showsBy 30 = .ok (.istore 7, 2) := by decide +kernel
theorem dX9_showsBy_32 : decode cX9_showsBy 32 = .ok (.iload 7, 2) := by decide +kernel
theorem dX9_showsBy_34 : decode cX9_showsBy 34 = .ok (.aload_n 0, 1) := by decide +kernel
theorem dX9_showsBy_35 : decode cX9_showsBy 35 = .ok (.getfield 157, 3) := by decide +kernel
theorem dX9_showsBy_38 : decode cX9_showsBy 38 = .ok (.if_icmp .ge 52, 3) := by decide +kernel
theorem dX9_showsBy_41 : decode cX9_showsBy 41 = .ok (.aload_n 0, 1) := by decide +kernel
theorem dX9_showsBy_42 : decode cX9_showsBy 42 = .ok (.iload_n 1, 1) := by decide +kernel
theorem dX9_showsBy_43 : decode cX9_showsBy 43 = .ok (.invokevirtual 201, 3) := by decide +kernel
theorem dX9_showsBy_46 : decode cX9_showsBy 46 = .ok (.aload_n 0, 1) := by decide +kernel
theorem dX9_showsBy_47 : decode cX9_showsBy 47 = .ok (.iload 7, 2) := by decide +kernel
theorem dX9_showsBy_49 : decode cX9_showsBy 49 = .ok (.invokevirtual 204, 3) := by decide +kernel
theorem dX9_showsBy_52 : decode cX9_showsBy 52 = .ok (.istore 8, 2) := by decide +kernel
theorem dX9_showsBy_54 : decode cX9_showsBy 54 = .ok (.aload_n 0, 1) := by decide +kernel
theorem dX9_showsBy_55 : decode cX9_showsBy 55 = .ok (.getfield 67, 3) := by decide +kernel
theorem dX9_showsBy_58 : decode cX9_showsBy 58 = .ok (.iload_n 2, 1) := by decide +kernel
theorem dX9_showsBy_59 : decode cX9_showsBy 59 = .ok (.iload_n 3, 1) := by decide +kernel
theorem dX9_showsBy_60 : decode cX9_showsBy 60 = .ok (.iastore, 1) := by decide +kernel
theorem dX9_showsBy_61 : decode cX9_showsBy 61 = .ok (.iload 6, 2) := by decide +kernel
theorem dX9_showsBy_63 : decode cX9_showsBy 63 = .ok (.ifCond .ne 14, 3) := by decide +kernel
theorem dX9_showsBy_66 : decode cX9_showsBy 66 = .ok (.aload_n 0, 1) := by decide +kernel
theorem dX9_showsBy_67 : decode cX9_showsBy 67 = .ok (.iload 7, 2) := by decide +kernel
theorem dX9_showsBy_69 : decode cX9_showsBy 69 = .ok (.invokevirtual 204, 3) := by decide +kernel
theorem dX9_showsBy_72 : decode cX9_showsBy 72 = .ok (.iload 8, 2) := by decide +kernel
theorem dX9_showsBy_74 : decode cX9_showsBy 74 = .ok (.if_icmp .eq 7, 3) := by decide +kernel
theorem dX9_showsBy_77 : decode cX9_showsBy 77 = .ok (.iconst 1, 1) := by decide +kernel
theorem dX9_showsBy_78 : decode cX9_showsBy 78 = .ok (.goto 4, 3) := by decide +kernel
theorem dX9_showsBy_81 : decode cX9_showsBy 81 = .ok (.iconst 0, 1) := by decide +kernel
theorem dX9_showsBy_82 : decode cX9_showsBy 82 = .ok (.istore 6, 2) := by decide +kernel
theorem dX9_showsBy_84 : decode cX9_showsBy 84 = .ok (.iinc 7 1, 3) := by decide +kernel
theorem dX9_showsBy_87 : decode cX9_showsBy 87 = .ok (.goto (-55), 3) := by decide +kernel
theorem dX9_showsBy_90 : decode cX9_showsBy 90 = .ok (.iload 4, 2) := by decide +kernel
theorem dX9_showsBy_92 : decode cX9_showsBy 92 = .ok (.iload 6, 2) := by decide +kernel
theorem dX9_showsBy_94 : decode cX9_showsBy 94 = .ok (.ifCond .eq 10, 3) := by decide +kernel
theorem dX9_showsBy_97 : decode cX9_showsBy 97 = .ok (.iconst 1, 1) := by decide +kernel
theorem dX9_showsBy_98 : decode cX9_showsBy 98 = .ok (.iload 5, 2) := by decide +kernel
theorem dX9_showsBy_100 : decode cX9_showsBy 100 = .ok (.ishl, 1) := by decide +kernel
theorem dX9_showsBy_101 : decode cX9_showsBy 101 = .ok (.goto 4, 3) := by decide +kernel
theorem dX9_showsBy_104 : decode cX9_showsBy 104 = .ok (.iconst 0, 1) := by decide +kernel
theorem dX9_showsBy_105 : decode cX9_showsBy 105 = .ok (.ior, 1) := by decide +kernel
theorem dX9_showsBy_106 : decode cX9_showsBy 106 = .ok (.istore 4, 2) := by decide +kernel
theorem dX9_showsBy_108 : decode cX9_showsBy 108 = .ok (.iinc 5 1, 3) := by decide +kernel
theorem dX9_showsBy_111 : decode cX9_showsBy 111 = .ok (.goto (-105), 3) := by decide +kernel
theorem dX9_showsBy_114 : decode cX9_showsBy 114 = .ok (.iload 4, 2) := by decide +kernel
theorem dX9_showsBy_116 : decode cX9_showsBy 116 = .ok (.ireturn, 1) := by decide +kernel
theorem dX9_isSlip_0 : decode cX9_isSlip 0 = .ok (.iload_n 2, 1) := by decide +kernel
theorem dX9_isSlip_1 : decode cX9_isSlip 1 = .ok (.aload_n 0, 1) := by decide +kernel
theorem dX9_isSlip_2 : decode cX9_isSlip 2 = .ok (.getfield 25, 3) := by decide +kernel
theorem dX9_isSlip_5 : decode cX9_isSlip 5 = .ok (.iload_n 1, 1) := by decide +kernel
theorem dX9_isSlip_6 : decode cX9_isSlip 6 = .ok (.iaload, 1) := by decide +kernel
theorem dX9_isSlip_7 : decode cX9_isSlip 7 = .ok (.if_icmp .ge 22, 3) := by decide +kernel
theorem dX9_isSlip_10 : decode cX9_isSlip 10 = .ok (.aload_n 0, 1) := by decide +kernel
theorem dX9_isSlip_11 : decode cX9_isSlip 11 = .ok (.getfield 28, 3) := by decide +kernel
theorem dX9_isSlip_14 : decode cX9_isSlip 14 = .ok (.bipush 8, 2) := by decide +kernel
theorem dX9_isSlip_16 : decode cX9_isSlip 16 = .ok (.iload_n 1, 1) := by decide +kernel
theorem dX9_isSlip_17 : decode cX9_isSlip 17 = .ok (.imul, 1) := by decide +kernel
theorem dX9_isSlip_18 : decode cX9_isSlip 18 = .ok (.iload_n 2, 1) := by decide +kernel
theorem dX9_isSlip_19 : decode cX9_isSlip 19 = .ok (.iadd, 1) := by decide +kernel
theorem dX9_isSlip_20 : decode cX9_isSlip 20 = .ok (.iaload, 1) := by decide +kernel
theorem dX9_isSlip_21 : decode cX9_isSlip 21 = .ok (.iload_n 3, 1) := by decide +kernel
theorem dX9_isSlip_22 : decode cX9_isSlip 22 = .ok (.if_icmp .eq 7, 3) := by decide +kernel
theorem dX9_isSlip_25 : decode cX9_isSlip 25 = .ok (.iconst 1, 1) := by decide +kernel
theorem dX9_isSlip_26 : decode cX9_isSlip 26 = .ok (.goto 4, 3) := by decide +kernel
theorem dX9_isSlip_29 : decode cX9_isSlip 29 = .ok (.iconst 0, 1) := by decide +kernel
theorem dX9_isSlip_30 : decode cX9_isSlip 30 = .ok (.ireturn, 1) := by decide +kernel
theorem dX9_learnt_0 : decode cX9_learnt 0 = .ok (.iload_n 1, 1) := by decide +kernel
theorem dX9_learnt_1 : decode cX9_learnt 1 = .ok (.invokestatic 148, 3) := by decide +kernel
theorem dX9_learnt_4 : decode cX9_learnt 4 = .ok (.ifCond .eq 28, 3) := by decide +kernel
theorem dX9_learnt_7 : decode cX9_learnt 7 = .ok (.iload_n 2, 1) := by decide +kernel
theorem dX9_learnt_8 : decode cX9_learnt 8 = .ok (.invokestatic 154, 3) := by decide +kernel
theorem dX9_learnt_11 : decode cX9_learnt 11 = .ok (.ifCond .eq 21, 3) := by decide +kernel
theorem dX9_learnt_14 : decode cX9_learnt 14 = .ok (.aload_n 0, 1) := by decide +kernel
theorem dX9_learnt_15 : decode cX9_learnt 15 = .ok (.iload_n 3, 1) := by decide +kernel
theorem dX9_learnt_16 : decode cX9_learnt 16 = .ok (.invokevirtual 151, 3) := by decide +kernel
theorem dX9_learnt_19 : decode cX9_learnt 19 = .ok (.ifCond .eq 13, 3) := by decide +kernel
theorem dX9_learnt_22 : decode cX9_learnt 22 = .ok (.aload_n 0, 1) := by decide +kernel
theorem dX9_learnt_23 : decode cX9_learnt 23 = .ok (.iload_n 1, 1) := by decide +kernel
theorem dX9_learnt_24 : decode cX9_learnt 24 = .ok (.iload_n 2, 1) := by decide +kernel
theorem dX9_learnt_25 : decode cX9_learnt 25 = .ok (.iload_n 3, 1) := by decide +kernel
theorem dX9_learnt_26 : decode cX9_learnt 26 = .ok (.invokevirtual 238, 3) := by decide +kernel
theorem dX9_learnt_29 : decode cX9_learnt 29 = .ok (.ifCond .ne 5, 3) := by decide +kernel
theorem dX9_learnt_32 : decode cX9_learnt 32 = .ok (.iconst (-1), 1) := by decide +kernel
theorem dX9_learnt_33 : decode cX9_learnt 33 = .ok (.ireturn, 1) := by decide +kernel
theorem dX9_learnt_34 : decode cX9_learnt 34 = .ok (.aload_n 0, 1) := by decide +kernel
theorem dX9_learnt_35 : decode cX9_learnt 35 = .ok (.iload_n 1, 1) := by decide +kernel
theorem dX9_learnt_36 : decode cX9_learnt 36 = .ok (.iload_n 2, 1) := by decide +kernel
theorem dX9_learnt_37 : decode cX9_learnt 37 = .ok (.iload_n 3, 1) := by decide +kernel
theorem dX9_learnt_38 : decode cX9_learnt 38 = .ok (.invokevirtual 242, 3) := by decide +kernel
theorem dX9_learnt_41 : decode cX9_learnt 41 = .ok (.ireturn, 1) := by decide +kernel
theorem dX9_slip_0 : decode cX9_slip 0 = .ok (.iload_n 1, 1) := by decide +kernel
theorem dX9_slip_1 : decode cX9_slip 1 = .ok (.invokestatic 148, 3) := by decide +kernel
theorem dX9_slip_4 : decode cX9_slip 4 = .ok (.ifCond .eq 18, 3) := by decide +kernel
theorem dX9_slip_7 : decode cX9_slip 7 = .ok (.iload_n 2, 1) := by decide +kernel
theorem dX9_slip_8 : decode cX9_slip 8 = .ok (.invokestatic 154, 3) := by decide +kernel
theorem dX9_slip_11 : decode cX9_slip 11 = .ok (.ifCond .eq 11, 3) := by decide +kernel
theorem dX9_slip_14 : decode cX9_slip 14 = .ok (.aload_n 0, 1) := by decide +kernel
theorem dX9_slip_15 : decode cX9_slip 15 = .ok (.iload_n 3, 1) := by decide +kernel
theorem dX9_slip_16 : decode cX9_slip 16 = .ok (.invokevirtual 151, 3) := by decide +kernel
theorem dX9_slip_19 : decode cX9_slip 19 = .ok (.ifCond .ne 5, 3) := by decide +kernel
theorem dX9_slip_22 : decode cX9_slip 22 = .ok (.iconst (-1), 1) := by decide +kernel
theorem dX9_slip_23 : decode cX9_slip 23 = .ok (.ireturn, 1) := by decide +kernel
theorem dX9_slip_24 : decode cX9_slip 24 = .ok (.aload_n 0, 1) := by decide +kernel
theorem dX9_slip_25 : decode cX9_slip 25 = .ok (.getfield 140, 3) := by decide +kernel
theorem dX9_slip_28 : decode cX9_slip 28 = .ok (.bipush 20, 2) := by decide +kernel
theorem dX9_slip_30 : decode cX9_slip 30 = .ok (.if_icmp .ne 6, 3) := by decide +kernel
theorem dX9_slip_33 : decode cX9_slip 33 = .ok (.bipush (-3), 2) := by decide +kernel
theorem dX9_slip_35 : decode cX9_slip 35 = .ok (.ireturn, 1) := by decide +kernel
theorem dX9_slip_36 : decode cX9_slip 36 = .ok (.aload_n 0, 1) := by decide +kernel
theorem dX9_slip_37 : decode cX9_slip 37 = .ok (.getfield 43, 3) := by decide +kernel
theorem dX9_slip_40 : decode cX9_slip 40 = .ok (.iconst 3, 1) := by decide +kernel
theorem dX9_slip_41 : decode cX9_slip 41 = .ok (.aload_n 0, 1) := by decide +kernel
theorem dX9_slip_42 : decode cX9_slip 42 = .ok (.getfield 140, 3) := by decide +kernel
theorem dX9_slip_45 : decode cX9_slip 45 = .ok (.imul, 1) := by decide +kernel
theorem dX9_slip_46 : decode cX9_slip 46 = .ok (.iload_n 1, 1) := by decide +kernel
theorem dX9_slip_47 : decode cX9_slip 47 = .ok (.iastore, 1) := by decide +kernel
theorem dX9_slip_48 : decode cX9_slip 48 = .ok (.aload_n 0, 1) := by decide +kernel
theorem dX9_slip_49 : decode cX9_slip 49 = .ok (.getfield 43, 3) := by decide +kernel
theorem dX9_slip_52 : decode cX9_slip 52 = .ok (.iconst 3, 1) := by decide +kernel
theorem dX9_slip_53 : decode cX9_slip 53 = .ok (.aload_n 0, 1) := by decide +kernel
theorem dX9_slip_54 : decode cX9_slip 54 = .ok (.getfield 140, 3) := by decide +kernel
theorem dX9_slip_57 : decode cX9_slip 57 = .ok (.imul, 1) := by decide +kernel
theorem dX9_slip_58 : decode cX9_slip 58 = .ok (.iconst 1, 1) := by decide +kernel
theorem dX9_slip_59 : decode cX9_slip 59 = .ok (.iadd, 1) := by decide +kernel
theorem dX9_slip_60 : decode cX9_slip 60 = .ok (.iload_n 2, 1) := by decide +kernel
theorem dX9_slip_61 : decode cX9_slip 61 = .ok (.iastore, 1) := by decide +kernel
theorem dX9_slip_62 : decode cX9_slip 62 = .ok (.aload_n 0, 1) := by decide +kernel
theorem dX9_slip_63 : decode cX9_slip 63 = .ok (.getfield 43, 3) := by decide +kernel
theorem dX9_slip_66 : decode cX9_slip 66 = .ok (.iconst 3, 1) := by decide +kernel
theorem dX9_slip_67 : decode cX9_slip 67 = .ok (.aload_n 0, 1) := by decide +kernel
theorem dX9_slip_68 : decode cX9_slip 68 = .ok (.getfield 140, 3) := by decide +kernel
theorem dX9_slip_71 : decode cX9_slip 71 = .ok (.imul, 1) := by decide +kernel
theorem dX9_slip_72 : decode cX9_slip 72 = .ok (.iconst 2, 1) := by decide +kernel
theorem dX9_slip_73 : decode cX9_slip 73 = .ok (.iadd, 1) := by decide +kernel
theorem dX9_slip_74 : decode cX9_slip 74 = .ok (.iload_n 3, 1) := by decide +kernel
theorem dX9_slip_75 : decode cX9_slip 75 = .ok (.iastore, 1) := by decide +kernel
theorem dX9_slip_76 : decode cX9_slip 76 = .ok (.aload_n 0, 1) := by decide +kernel
theorem dX9_slip_77 : decode cX9_slip 77 = .ok (.dup, 1) := by decide +kernel
theorem dX9_slip_78 : decode cX9_slip 78 = .ok (.getfield 140, 3) := by decide +kernel
theorem dX9_slip_81 : decode cX9_slip 81 = .ok (.iconst 1, 1) := by decide +kernel
theorem dX9_slip_82 : decode cX9_slip 82 = .ok (.iadd, 1) := by decide +kernel
theorem dX9_slip_83 : decode cX9_slip 83 = .ok (.putfield 140, 3) := by decide +kernel
theorem dX9_slip_86 : decode cX9_slip 86 = .ok (.aload_n 0, 1) := by decide +kernel
theorem dX9_slip_87 : decode cX9_slip 87 = .ok (.getfield 140, 3) := by decide +kernel
theorem dX9_slip_90 : decode cX9_slip 90 = .ok (.ireturn, 1) := by decide +kernel
theorem dX9_noSlips_0 : decode cX9_noSlips 0 = .ok (.aload_n 0, 1) := by decide +kernel
theorem dX9_noSlips_1 : decode cX9_noSlips 1 = .ok (.getfield 140, 3) := by decide +kernel
theorem dX9_noSlips_4 : decode cX9_noSlips 4 = .ok (.istore_n 1, 1) := by decide +kernel
theorem dX9_noSlips_5 : decode cX9_noSlips 5 = .ok (.aload_n 0, 1) := by decide +kernel
theorem dX9_noSlips_6 : decode cX9_noSlips 6 = .ok (.iconst 0, 1) := by decide +kernel
theorem dX9_noSlips_7 : decode cX9_noSlips 7 = .ok (.putfield 140, 3) := by decide +kernel
theorem dX9_noSlips_10 : decode cX9_noSlips 10 = .ok (.iload_n 1, 1) := by decide +kernel
theorem dX9_noSlips_11 : decode cX9_noSlips 11 = .ok (.ireturn, 1) := by decide +kernel
theorem dX9_isListed_0 : decode cX9_isListed 0 = .ok (.aload_n 0, 1) := by decide +kernel
theorem dX9_isListed_1 : decode cX9_isListed 1 = .ok (.getfield 16, 3) := by decide +kernel
theorem dX9_isListed_4 : decode cX9_isListed 4 = .ok (.iconst 3, 1) := by decide +kernel
theorem dX9_isListed_5 : decode cX9_isListed 5 = .ok (.iload_n 1, 1) := by decide +kernel
theorem dX9_isListed_6 : decode cX9_isListed 6 = .ok (.imul, 1) := by decide +kernel
theorem dX9_isListed_7 : decode cX9_isListed 7 = .ok (.iaload, 1) := by decide +kernel
theorem dX9_isListed_8 : decode cX9_isListed 8 = .ok (.aload_n 0, 1) := by decide +kernel
theorem dX9_isListed_9 : decode cX9_isListed 9 = .ok (.getfield 16, 3) := by decide +kernel
theorem dX9_isListed_12 : decode cX9_isListed 12 = .ok (.iconst 3, 1) := by decide +kernel
theorem dX9_isListed_13 : decode cX9_isListed 13 = .ok (.iload_n 2, 1) := by decide +kernel
theorem dX9_isListed_14 : decode cX9_isListed 14 = .ok (.imul, 1) := by decide +kernel
theorem dX9_isListed_15 : decode cX9_isListed 15 = .ok (.iaload, 1) := by decide +kernel
theorem dX9_isListed_16 : decode cX9_isListed 16 = .ok (.if_icmp .ne 26, 3) := by decide +kernel
theorem dX9_isListed_19 : decode cX9_isListed 19 = .ok (.aload_n 0, 1) := by decide +kernel
theorem dX9_isListed_20 : decode cX9_isListed 20 = .ok (.getfield 16, 3) := by decide +kernel
theorem dX9_isListed_23 : decode cX9_isListed 23 = .ok (.iconst 3, 1) := by decide +kernel
theorem dX9_isListed_24 : decode cX9_isListed 24 = .ok (.iload_n 1, 1) := by decide +kernel
theorem dX9_isListed_25 : decode cX9_isListed 25 = .ok (.imul, 1) := by decide +kernel
theorem dX9_isListed_26 : decode cX9_isListed 26 = .ok (.iconst 1, 1) := by decide +kernel
theorem dX9_isListed_27 : decode cX9_isListed 27 = .ok (.iadd, 1) := by decide +kernel
theorem dX9_isListed_28 : decode cX9_isListed 28 = .ok (.iaload, 1) := by decide +kernel
theorem dX9_isListed_29 : decode cX9_isListed 29 = .ok (.aload_n 0, 1) := by decide +kernel
theorem dX9_isListed_30 : decode cX9_isListed 30 = .ok (.getfield 16, 3) := by decide +kernel
theorem dX9_isListed_33 : decode cX9_isListed 33 = .ok (.iconst 3, 1) := by decide +kernel
theorem dX9_isListed_34 : decode cX9_isListed 34 = .ok (.iload_n 2, 1) := by decide +kernel
theorem dX9_isListed_35 : decode cX9_isListed 35 = .ok (.imul, 1) := by decide +kernel
theorem dX9_isListed_36 : decode cX9_isListed 36 = .ok (.iconst 1, 1) := by decide +kernel
theorem dX9_isListed_37 : decode cX9_isListed 37 = .ok (.iadd, 1) := by decide +kernel
theorem dX9_isListed_38 : decode cX9_isListed 38 = .ok (.iaload, 1) := by decide +kernel
theorem dX9_isListed_39 : decode cX9_isListed 39 = .ok (.if_icmp .eq 7, 3) := by decide +kernel
theorem dX9_isListed_42 : decode cX9_isListed 42 = .ok (.iconst 1, 1) := by decide +kernel
theorem dX9_isListed_43 : decode cX9_isListed 43 = .ok (.goto 4, 3) := by decide +kernel
theorem dX9_isListed_46 : decode cX9_isListed 46 = .ok (.iconst 0, 1) := by decide +kernel
theorem dX9_isListed_47 : decode cX9_isListed 47 = .ok (.ireturn, 1) := by decide +kernel
theorem dX9_fewestWays_0 : decode cX9_fewestWays 0 = .ok (.bipush (-4), 2) := by decide +kernel
theorem dX9_fewestWays_2 : decode cX9_fewestWays 2 = .ok (.istore_n 1, 1) := by decide +kernel
theorem dX9_fewestWays_3 : decode cX9_fewestWays 3 = .ok (.iconst 0, 1) := by decide +kernel
theorem dX9_fewestWays_4 : decode cX9_fewestWays 4 = .ok (.istore_n 2, 1) := by decide +kernel
theorem dX9_fewestWays_5 : decode cX9_fewestWays 5 = .ok (.iload_n 2, 1) := by decide +kernel
theorem dX9_fewestWays_6 : decode cX9_fewestWays 6 = .ok (.bipush 32, 2) := by decide +kernel
theorem dX9_fewestWays_8 : decode cX9_fewestWays 8 = .ok (.if_icmp .ge 92, 3) := by decide +kernel
theorem dX9_fewestWays_11 : decode cX9_fewestWays 11 = .ok (.iload_n 1, 1) := by decide +kernel
theorem dX9_fewestWays_12 : decode cX9_fewestWays 12 = .ok (.bipush (-4), 2) := by decide +kernel
theorem dX9_fewestWays_14 : decode cX9_fewestWays 14 = .ok (.if_icmp .eq 14, 3) := by decide +kernel
theorem dX9_fewestWays_17 : decode cX9_fewestWays 17 = .ok (.iload_n 2, 1) := by decide +kernel
theorem dX9_fewestWays_18 : decode cX9_fewestWays 18 = .ok (.invokestatic 245, 3) := by decide +kernel
theorem dX9_fewestWays_21 : decode cX9_fewestWays 21 = .ok (.iload_n 1, 1) := by decide +kernel
theorem dX9_fewestWays_22 : decode cX9_fewestWays 22 = .ok (.invokestatic 245, 3) := by decide +kernel
theorem dX9_fewestWays_25 : decode cX9_fewestWays 25 = .ok (.if_icmp .ge 7, 3) := by decide +kernel
theorem dX9_fewestWays_28 : decode cX9_fewestWays 28 = .ok (.iconst 1, 1) := by decide +kernel
theorem dX9_fewestWays_29 : decode cX9_fewestWays 29 = .ok (.goto 4, 3) := by decide +kernel
theorem dX9_fewestWays_32 : decode cX9_fewestWays 32 = .ok (.iconst 0, 1) := by decide +kernel
theorem dX9_fewestWays_33 : decode cX9_fewestWays 33 = .ok (.istore_n 3, 1) := by decide +kernel
theorem dX9_fewestWays_34 : decode cX9_fewestWays 34 = .ok (.iconst 0, 1) := by decide +kernel
theorem dX9_fewestWays_35 : decode cX9_fewestWays 35 = .ok (.istore 4, 2) := by decide +kernel
theorem dX9_fewestWays_37 : decode cX9_fewestWays 37 = .ok (.iload 4, 2) := by decide +kernel
theorem dX9_fewestWays_39 : decode cX9_fewestWays 39 = .ok (.aload_n 0, 1) := by decide +kernel
theorem dX9_fewestWays_40 : decode cX9_fewestWays 40 = .ok (.getfield 140, 3) := by decide +kernel
theorem dX9_fewestWays_43 : decode cX9_fewestWays 43 = .ok (.if_icmp .ge 41, 3) := by decide +kernel
theorem dX9_fewestWays_46 : decode cX9_fewestWays 46 = .ok (.iload_n 3, 1) := by decide +kernel
theorem dX9_fewestWays_47 : decode cX9_fewestWays 47 = .ok (.ifCond .eq 37, 3) := by decide +kernel
theorem dX9_fewestWays_50 : decode cX9_fewestWays 50 = .ok (.aload_n 0, 1) := by decide +kernel
theorem dX9_fewestWays_51 : decode cX9_fewestWays 51 = .ok (.getfield 83, 3) := by decide +kernel
theorem dX9_fewestWays_54 : decode cX9_fewestWays 54 = .ok (.iload 4, 2) := by decide +kernel
theorem dX9_fewestWays_56 : decode cX9_fewestWays 56 = .ok (.iaload, 1) := by decide +kernel
theorem dX9_fewestWays_57 : decode cX9_fewestWays 57 = .ok (.ifCond .eq 15, 3) := by decide +kernel
theorem dX9_fewestWays_60 : decode cX9_fewestWays 60 = .ok (.aload_n 0, 1) := by decide +kernel
theorem dX9_fewestWays_61 : decode cX9_fewestWays 61 = .ok (.getfield 83, 3) := by decide +kernel
theorem dX9_fewestWays_64 : decode cX9_fewestWays 64 = .ok (.iload 4, 2) := by decide +kernel
theorem dX9_fewestWays_66 : decode cX9_fewestWays 66 = .ok (.iaload, 1) := by decide +kernel
theorem dX9_fewestWays_67 : decode cX9_fewestWays 67 = .ok (.iload_n 2, 1) := by decide +kernel
theorem dX9_fewestWays_68 : decode cX9_fewestWays 68 = .ok (.iand, 1) := by decide +kernel
theorem dX9_fewestWays_69 : decode cX9_fewestWays 69 = .ok (.ifCond .eq 7, 3) := by decide +kernel
theorem dX9_fewestWays_72 : decode cX9_fewestWays 72 = .ok (.iconst 1, 1) := by decide +kernel
theorem dX9_fewestWays_73 : decode cX9_fewestWays 73 = .ok (.goto 4, 3) := by decide +kernel
theorem dX9_fewestWays_76 : decode cX9_fewestWays 76 = .ok (.iconst 0, 1) := by decide +kernel
theorem dX9_fewestWays_77 : decode cX9_fewestWays 77 = .ok (.istore_n 3, 1) := by decide +kernel
theorem dX9_fewestWays_78 : decode cX9_fewestWays 78 = .ok (.iinc 4 1, 3) := by decide +kernel
theorem dX9_fewestWays_81 : decode cX9_fewestWays 81 = .ok (.goto (-44), 3) := by decide +kernel
theorem dX9_fewestWays_84 : decode cX9_fewestWays 84 = .ok (.iload_n 3, 1) := by decide +kernel
theorem dX9_fewestWays_85 : decode cX9_fewestWays 85 = .ok (.ifCond .eq 7, 3) := by decide +kernel
theorem dX9_fewestWays_88 : decode cX9_fewestWays 88 = .ok (.iload_n 2, 1) := by decide +kernel
theorem dX9_fewestWays_89 : decode cX9_fewestWays 89 = .ok (.goto 4, 3) := by decide +kernel
theorem dX9_fewestWays_92 : decode cX9_fewestWays 92 = .ok (.iload_n 1, 1) := by decide +kernel
theorem dX9_fewestWays_93 : decode cX9_fewestWays 93 = .ok (.istore_n 1, 1) := by decide +kernel
theorem dX9_fewestWays_94 : decode cX9_fewestWays 94 = .ok (.iinc 2 1, 3) := by decide +kernel
theorem dX9_fewestWays_97 : decode cX9_fewestWays 97 = .ok (.goto (-92), 3) := by decide +kernel
theorem dX9_fewestWays_100 : decode cX9_fewestWays 100 = .ok (.iload_n 1, 1) := by decide +kernel
theorem dX9_fewestWays_101 : decode cX9_fewestWays 101 = .ok (.ireturn, 1) := by decide +kernel
theorem dX9_slips_0 : decode cX9_slips 0 = .ok (.iload_n 1, 1) := by decide +kernel
theorem dX9_slips_1 : decode cX9_slips 1 = .ok (.i2l, 1) := by decide +kernel
theorem dX9_slips_2 : decode cX9_slips 2 = .ok (.lconst 0, 1) := by decide +kernel
theorem dX9_slips_3 : decode cX9_slips 3 = .ok (.ldc2_w 248, 3) := by decide +kernel
theorem dX9_slips_6 : decode cX9_slips 6 = .ok (.invokestatic 92, 3) := by decide +kernel
theorem dX9_slips_9 : decode cX9_slips 9 = .ok (.ifCond .ne 5, 3) := by decide +kernel
theorem dX9_slips_12 : decode cX9_slips 12 = .ok (.iconst (-1), 1) := by decide +kernel
theorem dX9_slips_13 : decode cX9_slips 13 = .ok (.ireturn, 1) := by decide +kernel
theorem dX9_slips_14 : decode cX9_slips 14 = .ok (.iconst 0, 1) := by decide +kernel
theorem dX9_slips_15 : decode cX9_slips 15 = .ok (.istore_n 2, 1) := by decide +kernel
theorem dX9_slips_16 : decode cX9_slips 16 = .ok (.iconst 0, 1) := by decide +kernel
theorem dX9_slips_17 : decode cX9_slips 17 = .ok (.istore_n 3, 1) := by decide +kernel
theorem dX9_slips_18 : decode cX9_slips 18 = .ok (.iconst 0, 1) := by decide +kernel
theorem dX9_slips_19 : decode cX9_slips 19 = .ok (.istore 4, 2) := by decide +kernel
theorem dX9_slips_21 : decode cX9_slips 21 = .ok (.iconst 0, 1) := by decide +kernel
theorem dX9_slips_22 : decode cX9_slips 22 = .ok (.istore 5, 2) := by decide +kernel
theorem dX9_slips_24 : decode cX9_slips 24 = .ok (.iload 5, 2) := by decide +kernel
theorem dX9_slips_26 : decode cX9_slips 26 = .ok (.aload_n 0, 1) := by decide +kernel
theorem dX9_slips_27 : decode cX9_slips 27 = .ok (.getfield 140, 3) := by decide +kernel
theorem dX9_slips_30 : decode cX9_slips 30 = .ok (.if_icmp .ge 170, 3) := by decide +kernel
theorem dX9_slips_33 : decode cX9_slips 33 = .ok (.aload_n 0, 1) := by decide +kernel
theorem dX9_slips_34 : decode cX9_slips 34 = .ok (.getfield 43, 3) := by decide +kernel
theorem dX9_slips_37 : decode cX9_slips 37 = .ok (.iconst 3, 1) := by decide +kernel
theorem dX9_slips_38 : decode cX9_slips 38 = .ok (.iload 5, 2) := by decide +kernel
theorem dX9_slips_40 : decode cX9_slips 40 = .ok (.imul, 1) := by decide +kernel
theorem dX9_slips_41 : decode cX9_slips 41 = .ok (.iaload, 1) := by decide +kernel
theorem dX9_slips_42 : decode cX9_slips 42 = .ok (.istore 6, 2) := by decide +kernel
theorem dX9_slips_44 : decode cX9_slips 44 = .ok (.aload_n 0, 1) := by decide +kernel
theorem dX9_slips_45 : decode cX9_slips 45 = .ok (.getfield 43, 3) := by decide +kernel
theorem dX9_slips_48 : decode cX9_slips 48 = .ok (.iconst 3, 1) := by decide +kernel
theorem dX9_slips_49 : decode cX9_slips 49 = .ok (.iload 5, 2) := by decide +kernel
theorem dX9_slips_51 : decode cX9_slips 51 = .ok (.imul, 1) := by decide +kernel
theorem dX9_slips_52 : decode cX9_slips 52 = .ok (.iconst 1, 1) := by decide +kernel
theorem dX9_slips_53 : decode cX9_slips 53 = .ok (.iadd, 1) := by decide +kernel
theorem dX9_slips_54 : decode cX9_slips 54 = .ok (.iaload, 1) := by decide +kernel
theorem dX9_slips_55 : decode cX9_slips 55 = .ok (.istore 7, 2) := by decide +kernel
theorem dX9_slips_57 : decode cX9_slips 57 = .ok (.aload_n 0, 1) := by decide +kernel
theorem dX9_slips_58 : decode cX9_slips 58 = .ok (.getfield 43, 3) := by decide +kernel
theorem dX9_slips_61 : decode cX9_slips 61 = .ok (.iconst 3, 1) := by decide +kernel
theorem dX9_slips_62 : decode cX9_slips 62 = .ok (.iload 5, 2) := by decide +kernel
theorem dX9_slips_64 : decode cX9_slips 64 = .ok (.imul, 1) := by decide +kernel
theorem dX9_slips_65 : decode cX9_slips 65 = .ok (.iconst 2, 1) := by decide +kernel
theorem dX9_slips_66 : decode cX9_slips 66 = .ok (.iadd, 1) := by decide +kernel
theorem dX9_slips_67 : decode cX9_slips 67 = .ok (.iaload, 1) := by decide +kernel
theorem dX9_slips_68 : decode cX9_slips 68 = .ok (.istore 8, 2) := by decide +kernel
theorem dX9_slips_70 : decode cX9_slips 70 = .ok (.aload_n 0, 1) := by decide +kernel
theorem dX9_slips_71 : decode cX9_slips 71 = .ok (.iload 6, 2) := by decide +kernel
theorem dX9_slips_73 : decode cX9_slips 73 = .ok (.iload 7, 2) := by decide +kernel
theorem dX9_slips_75 : decode cX9_slips 75 = .ok (.iload 8, 2) := by decide +kernel
theorem dX9_slips_77 : decode cX9_slips 77 = .ok (.invokevirtual 238, 3) := by decide +kernel
theorem dX9_slips_80 : decode cX9_slips 80 = .ok (.istore 9, 2) := by decide +kernel
theorem dX9_slips_82 : decode cX9_slips 82 = .ok (.aload_n 0, 1) := by decide +kernel
theorem dX9_slips_83 : decode cX9_slips 83 = .ok (.getfield 83, 3) := by decide +kernel
theorem dX9_slips_86 : decode cX9_slips 86 = .ok (.iload 5, 2) := by decide +kernel
theorem dX9_slips_88 : decode cX9_slips 88 = .ok (.iload 9, 2) := by decide +kernel
theorem dX9_slips_90 : decode cX9_slips 90 = .ok (.ifCond .eq 16, 3) := by decide +kernel
theorem dX9_slips_93 : decode cX9_slips 93 = .ok (.aload_n 0, 1) := by decide +kernel
theorem dX9_slips_94 : decode cX9_slips 94 = .ok (.iload 6, 2) := by decide +kernel
theorem dX9_slips_96 : decode cX9_slips 96 = .ok (.iload 7, 2) := by decide +kernel
theorem dX9_slips_98 : decode cX9_slips 98 = .ok (.iload 8, 2) := by decide +kernel
theorem dX9_slips_100 : decode cX9_slips 100 = .ok (.invokevirtual 242, 3) := by decide +kernel
theorem dX9_slips_103 : decode cX9_slips 103 = .ok (.goto 4, 3) := by decide +kernel
theorem dX9_slips_106 : decode cX9_slips 106 = .ok (.iconst 0, 1) := by decide +kernel
theorem dX9_slips_107 : decode cX9_slips 107 = .ok (.iastore, 1) := by decide +kernel
theorem dX9_slips_108 : decode cX9_slips 108 = .ok (.iload 4, 2) := by decide +kernel
theorem dX9_slips_110 : decode cX9_slips 110 = .ok (.iload 9, 2) := by decide +kernel
theorem dX9_slips_112 : decode cX9_slips 112 = .ok (.ifCond .eq 7, 3) := by decide +kernel
theorem dX9_slips_115 : decode cX9_slips 115 = .ok (.iconst 1, 1) := by decide +kernel
theorem dX9_slips_116 : decode cX9_slips 116 = .ok (.goto 4, 3) := by decide +kernel
theorem dX9_slips_119 : decode cX9_slips 119 = .ok (.iconst 0, 1) := by decide +kernel
theorem dX9_slips_120 : decode cX9_slips 120 = .ok (.iadd, 1) := by decide +kernel
theorem dX9_slips_121 : decode cX9_slips 121 = .ok (.istore 4, 2) := by decide +kernel
theorem dX9_slips_123 : decode cX9_slips 123 = .ok (.iload_n 2, 1) := by decide +kernel
theorem dX9_slips_124 : decode cX9_slips 124 = .ok (.aload_n 0, 1) := by decide +kernel
theorem dX9_slips_125 : decode cX9_slips 125 = .ok (.getfield 83, 3) := by decide +kernel
theorem dX9_slips_128 : decode cX9_slips 128 = .ok (.iload 5, 2) := by decide +kernel
theorem dX9_slips_130 : decode cX9_slips 130 = .ok (.iaload, 1) := by decide +kernel
theorem dX9_slips_131 : decode cX9_slips 131 = .ok (.iconst 0, 1) := by decide +kernel
theorem dX9_slips_132 : decode cX9_slips 132 = .ok (.invokestatic 176, 3) := by decide +kernel
theorem dX9_slips_135 : decode cX9_slips 135 = .ok (.ifCond .ne 21, 3) := by decide +kernel
theorem dX9_slips_138 : decode cX9_slips 138 = .ok (.aload_n 0, 1) := by decide +kernel
theorem dX9_slips_139 : decode cX9_slips 139 = .ok (.getfield 83, 3) := by decide +kernel
theorem dX9_slips_142 : decode cX9_slips 142 = .ok (.iload 5, 2) := by decide +kernel
theorem dX9_slips_144 : decode cX9_slips 144 = .ok (.iaload, 1) := by decide +kernel
theorem dX9_slips_145 : decode cX9_slips 145 = .ok (.iconst 1, 1) := by decide +kernel
theorem dX9_slips_146 : decode cX9_slips 146 = .ok (.invokestatic 176, 3) := by decide +kernel
theorem dX9_slips_149 : decode cX9_slips 149 = .ok (.ifCond .eq 7, 3) := by decide +kernel
theorem dX9_slips_152 : decode cX9_slips 152 = .ok (.iconst 1, 1) := by decide +kernel
theorem dX9_slips_153 : decode cX9_slips 153 = .ok (.goto 4, 3) := by decide +kernel
theorem dX9_slips_156 : decode cX9_slips 156 = .ok (.iconst 0, 1) := by decide +kernel
theorem dX9_slips_157 : decode cX9_slips 157 = .ok (.iadd, 1) := by decide +kernel
theorem dX9_slips_158 : decode cX9_slips 158 = .ok (.istore_n 2, 1) := by decide +kernel
theorem dX9_slips_159 : decode cX9_slips 159 = .ok (.iload_n 3, 1) := by decide +kernel
theorem dX9_slips_160 : decode cX9_slips 160 = .ok (.iload 9, 2) := by decide +kernel
theorem dX9_slips_162 : decode cX9_slips 162 = .ok (.ifCond .eq 29, 3) := by decide +kernel
theorem dX9_slips_165 : decode cX9_slips 165 = .ok (.aload_n 0, 1) := by decide +kernel
theorem dX9_slips_166 : decode cX9_slips 166 = .ok (.aload_n 0, 1) := by decide +kernel
theorem dX9_slips_167 : decode cX9_slips 167 = .ok (.getfield 28, 3) := by decide +kernel
theorem dX9_slips_170 : decode cX9_slips 170 = .ok (.bipush 8, 2) := by decide +kernel
theorem dX9_slips_172 : decode cX9_slips 172 = .ok (.iload 6, 2) := by decide +kernel
theorem dX9_slips_174 : decode cX9_slips 174 = .ok (.imul, 1) := by decide +kernel
theorem dX9_slips_175 : decode cX9_slips 175 = .ok (.iload 7, 2) := by decide +kernel
theorem dX9_slips_177 : decode cX9_slips 177 = .ok (.iadd, 1) := by decide +kernel
theorem dX9_slips_178 : decode cX9_slips 178 = .ok (.iaload, 1) := by decide +kernel
theorem dX9_slips_179 : decode cX9_slips 179 = .ok (.iload 8, 2) := by decide +kernel
theorem dX9_slips_181 : decode cX9_slips 181 = .ok (.invokevirtual 250, 3) := by decide +kernel
theorem dX9_slips_184 : decode cX9_slips 184 = .ok (.ifCond .eq 7, 3) := by decide +kernel
theorem dX9_slips_187 : decode cX9_slips 187 = .ok (.iconst 1, 1) := by decide +kernel
theorem dX9_slips_188 : decode cX9_slips 188 = .ok (.goto 4, 3) := by decide +kernel
theorem dX9_slips_191 : decode cX9_slips 191 = .ok (.iconst 0, 1) := by decide +kernel
theorem dX9_slips_192 : decode cX9_slips 192 = .ok (.iadd, 1) := by decide +kernel
theorem dX9_slips_193 : decode cX9_slips 193 = .ok (.istore_n 3, 1) := by decide +kernel
theorem dX9_slips_194 : decode cX9_slips 194 = .ok (.iinc 5 1, 3) := by decide +kernel
theorem dX9_slips_197 : decode cX9_slips 197 = .ok (.goto (-173), 3) := by decide +kernel
theorem dX9_slips_200 : decode cX9_slips 200 = .ok (.iload_n 1, 1) := by decide +kernel
theorem dX9_slips_201 : decode cX9_slips 201 = .ok (.ifCond .ne 7, 3) := by decide +kernel
theorem dX9_slips_204 : decode cX9_slips 204 = .ok (.iload_n 2, 1) := by decide +kernel
theorem dX9_slips_205 : decode cX9_slips 205 = .ok (.goto 26, 3) := by decide +kernel
theorem dX9_slips_208 : decode cX9_slips 208 = .ok (.iload_n 1, 1) := by decide +kernel
theorem dX9_slips_209 : decode cX9_slips 209 = .ok (.iconst 1, 1) := by decide +kernel
theorem dX9_slips_210 : decode cX9_slips 210 = .ok (.if_icmp .ne 10, 3) := by decide +kernel
theorem dX9_slips_213 : decode cX9_slips 213 = .ok (.aload_n 0, 1) := by decide +kernel
theorem dX9_slips_214 : decode cX9_slips 214 = .ok (.invokevirtual 253, 3) := by decide +kernel
theorem dX9_slips_217 : decode cX9_slips 217 = .ok (.goto 14, 3) := by decide +kernel
theorem dX9_slips_220 : decode cX9_slips 220 = .ok (.iload_n 1, 1) := by decide +kernel
theorem dX9_slips_221 : decode cX9_slips 221 = .ok (.iconst 2, 1) := by decide +kernel
theorem dX9_slips_222 : decode cX9_slips 222 = .ok (.if_icmp .ne 7, 3) := by decide +kernel
theorem dX9_slips_225 : decode cX9_slips 225 = .ok (.iload_n 3, 1) := by decide +kernel
theorem dX9_slips_226 : decode cX9_slips 226 = .ok (.goto 5, 3) := by decide +kernel
theorem dX9_slips_229 : decode cX9_slips 229 = .ok (.iload 4, 2) := by decide +kernel
theorem dX9_slips_231 : decode cX9_slips 231 = .ok (.ireturn, 1) := by decide +kernel
theorem dX9_list_0 : decode cX9_list 0 = .ok (.iload_n 1, 1) := by decide +kernel
theorem dX9_list_1 : decode cX9_list 1 = .ok (.invokestatic 148, 3) := by decide +kernel
theorem dX9_list_4 : decode cX9_list 4 = .ok (.ifCond .eq 15, 3) := by decide +kernel
theorem dX9_list_7 : decode cX9_list 7 = .ok (.iload_n 2, 1) := by decide +kernel
theorem dX9_list_8 : decode cX9_list 8 = .ok (.i2l, 1) := by decide +kernel
theorem dX9_list_9 : decode cX9_list 9 = .ok (.lconst 0, 1) := by decide +kernel
theorem dX9_list_10 : decode cX9_list 10 = .ok (.ldc2_w 90, 3) := by decide +kernel
theorem dX9_list_13 : decode cX9_list 13 = .ok (.invokestatic 92, 3) := by decide +kernel
theorem dX9_list_16 : decode cX9_list 16 = .ok (.ifCond .ne 5, 3) := by decide +kernel
theorem dX9_list_19 : decode cX9_list 19 = .ok (.iconst (-1), 1) := by decide +kernel
theorem dX9_list_20 : decode cX9_list 20 = .ok (.ireturn, 1) := by decide +kernel
theorem dX9_list_21 : decode cX9_list 21 = .ok (.iconst 0, 1) := by decide +kernel
theorem dX9_list_22 : decode cX9_list 22 = .ok (.istore_n 3, 1) := by decide +kernel
theorem dX9_list_23 : decode cX9_list 23 = .ok (.iconst 0, 1) := by decide +kernel
theorem dX9_list_24 : decode cX9_list 24 = .ok (.istore 4, 2) := by decide +kernel
theorem dX9_list_26 : decode cX9_list 26 = .ok (.iload 4, 2) := by decide +kernel
theorem dX9_list_28 : decode cX9_list 28 = .ok (.aload_n 0, 1) := by decide +kernel
theorem dX9_list_29 : decode cX9_list 29 = .ok (.getfield 25, 3) := by decide +kernel
theorem dX9_list_32 : decode cX9_list 32 = .ok (.iload_n 1, 1) := by decide +kernel
theorem dX9_list_33 : decode cX9_list 33 = .ok (.iaload, 1) := by decide +kernel
theorem dX9_list_34 : decode cX9_list 34 = .ok (.if_icmp .ge 62, 3) := by decide +kernel
theorem dX9_list_37 : decode cX9_list 37 = .ok (.iconst 3, 1) := by decide +kernel
theorem dX9_list_38 : decode cX9_list 38 = .ok (.aload_n 0, 1) := by decide +kernel
theorem dX9_list_39 : decode cX9_list 39 = .ok (.getfield 28, 3) := by decide +kernel
theorem dX9_list_42 : decode cX9_list 42 = .ok (.bipush 8, 2) := by decide +kernel
theorem dX9_list_44 : decode cX9_list 44 = .ok (.iload_n 1, 1) := by decide +kernel
theorem dX9_list_45 : decode cX9_list 45 = .ok (.imul, 1) := by decide +kernel
theorem dX9_list_46 : decode cX9_list 46 = .ok (.iload 4, 2) := by decide +kernel
theorem dX9_list_48 : decode cX9_list 48 = .ok (.iadd, 1) := by decide +kernel
theorem dX9_list_49 : decode cX9_list 49 = .ok (.iaload, 1) := by decide +kernel
theorem dX9_list_50 : decode cX9_list 50 = .ok (.imul, 1) := by decide +kernel
theorem dX9_list_51 : decode cX9_list 51 = .ok (.istore 5, 2) := by decide +kernel
theorem dX9_list_53 : decode cX9_list 53 = .ok (.iload_n 3, 1) := by decide +kernel
theorem dX9_list_54 : decode cX9_list 54 = .ok (.iload_n 2, 1) := by decide +kernel
theorem dX9_list_55 : decode cX9_list 55 = .ok (.bipush 8, 2) := by decide +kernel
theorem dX9_list_57 : decode cX9_list 57 = .ok (.if_icmp .ne 15, 3) := by decide +kernel
theorem dX9_list_60 : decode cX9_list 60 = .ok (.aload_n 0, 1) := by decide +kernel
theorem dX9_list_61 : decode cX9_list 61 = .ok (.getfield 16, 3) := by decide +kernel
theorem dX9_list_64 : decode cX9_list 64 = .ok (.iload 5, 2) := by decide +kernel
theorem dX9_list_66 : decode cX9_list 66 = .ok (.iconst 1, 1) := by decide +kernel
theorem dX9_list_67 : decode cX9_list 67 = .ok (.iadd, 1) := by decide +kernel
theorem dX9_list_68 : decode cX9_list 68 = .ok (.iaload, 1) := by decide +kernel
theorem dX9_list_69 : decode cX9_list 69 = .ok (.goto 19, 3) := by decide +kernel
theorem dX9_list_72 : decode cX9_list 72 = .ok (.aload_n 0, 1) := by decide +kernel
theorem dX9_list_73 : decode cX9_list 73 = .ok (.getfield 16, 3) := by decide +kernel
theorem dX9_list_76 : decode cX9_list 76 = .ok (.iload 5, 2) := by decide +kernel
theorem dX9_list_78 : decode cX9_list 78 = .ok (.iaload, 1) := by decide +kernel
theorem dX9_list_79 : decode cX9_list 79 = .ok (.iload_n 2, 1) := by decide +kernel
theorem dX9_list_80 : decode cX9_list 80 = .ok (.if_icmp .ne 7, 3) := by decide +kernel
theorem dX9_list_83 : decode cX9_list 83 = .ok (.iconst 1, 1) := by decide +kernel
theorem dX9_list_84 : decode cX9_list 84 = .ok (.goto 4, 3) := by decide +kernel
theorem dX9_list_87 : decode cX9_list 87 = .ok (.iconst 0, 1) := by decide +kernel
theorem dX9_list_88 : decode cX9_list 88 = .ok (.iadd, 1) := by decide +kernel
theorem dX9_list_89 : decode cX9_list 89 = .ok (.istore_n 3, 1) := by decide +kernel
theorem dX9_list_90 : decode cX9_list 90 = .ok (.iinc 4 1, 3) := by decide +kernel
theorem dX9_list_93 : decode cX9_list 93 = .ok (.goto (-67), 3) := by decide +kernel
theorem dX9_list_96 : decode cX9_list 96 = .ok (.iload_n 2, 1) := by decide +kernel
theorem dX9_list_97 : decode cX9_list 97 = .ok (.bipush 8, 2) := by decide +kernel
theorem dX9_list_99 : decode cX9_list 99 = .ok (.if_icmp .ne 10, 3) := by decide +kernel
theorem dX9_list_102 : decode cX9_list 102 = .ok (.iload_n 3, 1) := by decide +kernel
theorem dX9_list_103 : decode cX9_list 103 = .ok (.bipush 16, 2) := by decide +kernel
theorem dX9_list_105 : decode cX9_list 105 = .ok (.irem, 1) := by decide +kernel
theorem dX9_list_106 : decode cX9_list 106 = .ok (.goto 4, 3) := by decide +kernel
theorem dX9_list_109 : decode cX9_list 109 = .ok (.iload_n 3, 1) := by decide +kernel
theorem dX9_list_110 : decode cX9_list 110 = .ok (.ireturn, 1) := by decide +kernel
theorem dX9_isHead_0 : decode cX9_isHead 0 = .ok (.iload_n 1, 1) := by decide +kernel
theorem dX9_isHead_1 : decode cX9_isHead 1 = .ok (.i2l, 1) := by decide +kernel
theorem dX9_isHead_2 : decode cX9_isHead 2 = .ok (.lconst 0, 1) := by decide +kernel
theorem dX9_isHead_3 : decode cX9_isHead 3 = .ok (.aload_n 0, 1) := by decide +kernel
theorem dX9_isHead_4 : decode cX9_isHead 4 = .ok (.getfield 143, 3) := by decide +kernel
theorem dX9_isHead_7 : decode cX9_isHead 7 = .ok (.iconst 1, 1) := by decide +kernel
theorem dX9_isHead_8 : decode cX9_isHead 8 = .ok (.isub, 1) := by decide +kernel
theorem dX9_isHead_9 : decode cX9_isHead 9 = .ok (.i2l, 1) := by decide +kernel
theorem dX9_isHead_10 : decode cX9_isHead 10 = .ok (.invokestatic 92, 3) := by decide +kernel
theorem dX9_isHead_13 : decode cX9_isHead 13 = .ok (.ireturn, 1) := by decide +kernel
theorem dX9_head_0 : decode cX9_head 0 = .ok (.iload_n 1, 1) := by decide +kernel
theorem dX9_head_1 : decode cX9_head 1 = .ok (.i2l, 1) := by decide +kernel
theorem dX9_head_2 : decode cX9_head 2 = .ok (.lconst 0, 1) := by decide +kernel
theorem dX9_head_3 : decode cX9_head 3 = .ok (.ldc2_w 256, 3) := by decide +kernel
theorem dX9_head_6 : decode cX9_head 6 = .ok (.invokestatic 92, 3) := by decide +kernel
theorem dX9_head_9 : decode cX9_head 9 = .ok (.ifCond .eq 44, 3) := by decide +kernel
theorem dX9_head_12 : decode cX9_head 12 = .ok (.iload_n 2, 1) := by decide +kernel
theorem dX9_head_13 : decode cX9_head 13 = .ok (.i2l, 1) := by decide +kernel
theorem dX9_head_14 : decode cX9_head 14 = .ok (.ldc2_w 258, 3) := by decide +kernel
theorem dX9_head_17 : decode cX9_head 17 = .ok (.aload_n 0, 1) := by decide +kernel
theorem dX9_head_18 : decode cX9_head 18 = .ok (.getfield 143, 3) := by decide +kernel
theorem dX9_head_21 : decode cX9_head 21 = .ok (.iconst 1, 1) := by decide +kernel
theorem dX9_head_22 : decode cX9_head 22 = .ok (.isub, 1) := by decide +kernel
theorem dX9_head_23 : decode cX9_head 23 = .ok (.i2l, 1) := by decide +kernel
theorem dX9_head_24 : decode cX9_head 24 = .ok (.invokestatic 92, 3) := by decide +kernel
theorem dX9_head_27 : decode cX9_head 27 = .ok (.ifCond .eq 26, 3) := by decide +kernel
theorem dX9_head_30 : decode cX9_head 30 = .ok (.iload_n 3, 1) := by decide +kernel
theorem dX9_head_31 : decode cX9_head 31 = .ok (.invokestatic 148, 3) := by decide +kernel
theorem dX9_head_34 : decode cX9_head 34 = .ok (.ifCond .eq 19, 3) := by decide +kernel
theorem dX9_head_37 : decode cX9_head 37 = .ok (.iload_n 2, 1) := by decide +kernel
theorem dX9_head_38 : decode cX9_head 38 = .ok (.ifCond .lt 17, 3) := by decide +kernel
theorem dX9_head_41 : decode cX9_head 41 = .ok (.aload_n 0, 1) := by decide +kernel
theorem dX9_head_42 : decode cX9_head 42 = .ok (.getfield 46, 3) := by decide +kernel
theorem dX9_head_45 : decode cX9_head 45 = .ok (.iconst 4, 1) := by decide +kernel
theorem dX9_head_46 : decode cX9_head 46 = .ok (.iload_n 2, 1) := by decide +kernel
theorem dX9_head_47 : decode cX9_head 47 = .ok (.imul, 1) := by decide +kernel
theorem dX9_head_48 : decode cX9_head 48 = .ok (.iaload, 1) := by decide +kernel
theorem dX9_head_49 : decode cX9_head 49 = .ok (.iload_n 1, 1) := by decide +kernel
theorem dX9_head_50 : decode cX9_head 50 = .ok (.if_icmp .lt 5, 3) := by decide +kernel
theorem dX9_head_53 : decode cX9_head 53 = .ok (.iconst (-1), 1) := by decide +kernel
theorem dX9_head_54 : decode cX9_head 54 = .ok (.ireturn, 1) := by decide +kernel
theorem dX9_head_55 : decode cX9_head 55 = .ok (.aload_n 0, 1) := by decide +kernel
theorem dX9_head_56 : decode cX9_head 56 = .ok (.getfield 143, 3) := by decide +kernel
theorem dX9_head_59 : decode cX9_head 59 = .ok (.bipush 16, 2) := by decide +kernel
theorem dX9_head_61 : decode cX9_head 61 = .ok (.if_icmp .ne 6, 3) := by decide +kernel
theorem dX9_head_64 : decode cX9_head 64 = .ok (.bipush (-3), 2) := by decide +kernel
theorem dX9_head_66 : decode cX9_head 66 = .ok (.ireturn, 1) := by decide +kernel
theorem dX9_head_67 : decode cX9_head 67 = .ok (.iconst 4, 1) := by decide +kernel
theorem dX9_head_68 : decode cX9_head 68 = .ok (.aload_n 0, 1) := by decide +kernel
theorem dX9_head_69 : decode cX9_head 69 = .ok (.getfield 143, 3) := by decide +kernel
theorem dX9_head_72 : decode cX9_head 72 = .ok (.imul, 1) := by decide +kernel
theorem dX9_head_73 : decode cX9_head 73 = .ok (.istore 4, 2) := by decide +kernel
theorem dX9_head_75 : decode cX9_head 75 = .ok (.aload_n 0, 1) := by decide +kernel
theorem dX9_head_76 : decode cX9_head 76 = .ok (.getfield 46, 3) := by decide +kernel
theorem dX9_head_79 : decode cX9_head 79 = .ok (.iload 4, 2) := by decide +kernel
theorem dX9_head_81 : decode cX9_head 81 = .ok (.iload_n 1, 1) := by decide +kernel
theorem dX9_head_82 : decode cX9_head 82 = .ok (.iastore, 1) := by decide +kernel
theorem dX9_head_83 : decode cX9_head 83 = .ok (.aload_n 0, 1) := by decide +kernel
theorem dX9_head_84 : decode cX9_head 84 = .ok (.getfield 46, 3) := by decide +kernel
theorem dX9_head_87 : decode cX9_head 87 = .ok (.iload 4, 2) := by decide +kernel
theorem dX9_head_89 : decode cX9_head 89 = .ok (.iconst 1, 1) := by decide +kernel
theorem dX9_head_90 : decode cX9_head 90 = .ok (.iadd, 1) := by decide +kernel
theorem dX9_head_91 : decode cX9_head 91 = .ok (.iload_n 2, 1) := by decide +kernel
theorem dX9_head_92 : decode cX9_head 92 = .ok (.iastore, 1) := by decide +kernel
theorem dX9_head_93 : decode cX9_head 93 = .ok (.aload_n 0, 1) := by decide +kernel
theorem dX9_head_94 : decode cX9_head 94 = .ok (.getfield 46, 3) := by decide +kernel
theorem dX9_head_97 : decode cX9_head 97 = .ok (.iload 4, 2) := by decide +kernel
theorem dX9_head_99 : decode cX9_head 99 = .ok (.iconst 2, 1) := by decide +kernel
theorem dX9_head_100 : decode cX9_head 100 = .ok (.iadd, 1) := by decide +kernel
theorem dX9_head_101 : decode cX9_head 101 = .ok (.iload_n 3, 1) := by decide +kernel
theorem dX9_head_102 : decode cX9_head 102 = .ok (.iastore, 1) := by decide +kernel
theorem dX9_head_103 : decode cX9_head 103 = .ok (.aload_n 0, 1) := by decide +kernel
theorem dX9_head_104 : decode cX9_head 104 = .ok (.getfield 46, 3) := by decide +kernel
theorem dX9_head_107 : decode cX9_head 107 = .ok (.iload 4, 2) := by decide +kernel
theorem dX9_head_109 : decode cX9_head 109 = .ok (.iconst 3, 1) := by decide +kernel
theorem dX9_head_110 : decode cX9_head 110 = .ok (.iadd, 1) := by decide +kernel
theorem dX9_head_111 : decode cX9_head 111 = .ok (.iconst 1, 1) := by decide +kernel
theorem dX9_head_112 : decode cX9_head 112 = .ok (.iastore, 1) := by decide +kernel
theorem dX9_head_113 : decode cX9_head 113 = .ok (.aload_n 0, 1) := by decide +kernel
theorem dX9_head_114 : decode cX9_head 114 = .ok (.dup, 1) := by decide +kernel
theorem dX9_head_115 : decode cX9_head 115 = .ok (.getfield 143, 3) := by decide +kernel
theorem dX9_head_118 : decode cX9_head 118 = .ok (.iconst 1, 1) := by decide +kernel
theorem dX9_head_119 : decode cX9_head 119 = .ok (.iadd, 1) := by decide +kernel
theorem dX9_head_120 : decode cX9_head 120 = .ok (.putfield 143, 3) := by decide +kernel
theorem dX9_head_123 : decode cX9_head 123 = .ok (.aload_n 0, 1) := by decide +kernel
theorem dX9_head_124 : decode cX9_head 124 = .ok (.getfield 143, 3) := by decide +kernel
theorem dX9_head_127 : decode cX9_head 127 = .ok (.iconst 1, 1) := by decide +kernel
theorem dX9_head_128 : decode cX9_head 128 = .ok (.isub, 1) := by decide +kernel
theorem dX9_head_129 : decode cX9_head 129 = .ok (.ireturn, 1) := by decide +kernel
theorem dX9_isAlive_0 : decode cX9_isAlive 0 = .ok (.aload_n 0, 1) := by decide +kernel
theorem dX9_isAlive_1 : decode cX9_isAlive 1 = .ok (.getfield 46, 3) := by decide +kernel
theorem dX9_isAlive_4 : decode cX9_isAlive 4 = .ok (.iconst 4, 1) := by decide +kernel
theorem dX9_isAlive_5 : decode cX9_isAlive 5 = .ok (.iload_n 1, 1) := by decide +kernel
theorem dX9_isAlive_6 : decode cX9_isAlive 6 = .ok (.imul, 1) := by decide +kernel
theorem dX9_isAlive_7 : decode cX9_isAlive 7 = .ok (.iconst 3, 1) := by decide +kernel
theorem dX9_isAlive_8 : decode cX9_isAlive 8 = .ok (.iadd, 1) := by decide +kernel
theorem dX9_isAlive_9 : decode cX9_isAlive 9 = .ok (.iaload, 1) := by decide +kernel
theorem dX9_isAlive_10 : decode cX9_isAlive 10 = .ok (.iconst 1, 1) := by decide +kernel
theorem dX9_isAlive_11 : decode cX9_isAlive 11 = .ok (.if_icmp .ne 7, 3) := by decide +kernel
theorem dX9_isAlive_14 : decode cX9_isAlive 14 = .ok (.iconst 1, 1) := by decide +kernel
theorem dX9_isAlive_15 : decode cX9_isAlive 15 = .ok (.goto 4, 3) := by decide +kernel
theorem dX9_isAlive_18 : decode cX9_isAlive 18 = .ok (.iconst 0, 1) := by decide +kernel
theorem dX9_isAlive_19 : decode cX9_isAlive 19 = .ok (.ireturn, 1) := by decide +kernel
theorem dX9_alive_0 : decode cX9_alive 0 = .ok (.aload_n 0, 1) := by decide +kernel
theorem dX9_alive_1 : decode cX9_alive 1 = .ok (.iload_n 1, 1) := by decide +kernel
theorem dX9_alive_2 : decode cX9_alive 2 = .ok (.invokevirtual 260, 3) := by decide +kernel
theorem dX9_alive_5 : decode cX9_alive 5 = .ok (.ifCond .ne 5, 3) := by decide +kernel
theorem dX9_alive_8 : decode cX9_alive 8 = .ok (.iconst (-1), 1) := by decide +kernel
theorem dX9_alive_9 : decode cX9_alive 9 = .ok (.ireturn, 1) := by decide +kernel
theorem dX9_alive_10 : decode cX9_alive 10 = .ok (.aload_n 0, 1) := by decide +kernel
theorem dX9_alive_11 : decode cX9_alive 11 = .ok (.getfield 46, 3) := by decide +kernel
theorem dX9_alive_14 : decode cX9_alive 14 = .ok (.iconst 4, 1) := by decide +kernel
theorem dX9_alive_15 : decode cX9_alive 15 = .ok (.iload_n 1, 1) := by decide +kernel
theorem dX9_alive_16 : decode cX9_alive 16 = .ok (.imul, 1) := by decide +kernel
theorem dX9_alive_17 : decode cX9_alive 17 = .ok (.iconst 3, 1) := by decide +kernel
theorem dX9_alive_18 : decode cX9_alive 18 = .ok (.iadd, 1) := by decide +kernel
theorem dX9_alive_19 : decode cX9_alive 19 = .ok (.iaload, 1) := by decide +kernel
theorem dX9_alive_20 : decode cX9_alive 20 = .ok (.istore_n 3, 1) := by decide +kernel
theorem dX9_alive_21 : decode cX9_alive 21 = .ok (.aload_n 0, 1) := by decide +kernel
theorem dX9_alive_22 : decode cX9_alive 22 = .ok (.getfield 46, 3) := by decide +kernel
theorem dX9_alive_25 : decode cX9_alive 25 = .ok (.iconst 4, 1) := by decide +kernel
theorem dX9_alive_26 : decode cX9_alive 26 = .ok (.iload_n 1, 1) := by decide +kernel
theorem dX9_alive_27 : decode cX9_alive 27 = .ok (.imul, 1) := by decide +kernel
theorem dX9_alive_28 : decode cX9_alive 28 = .ok (.iconst 3, 1) := by decide +kernel
theorem dX9_alive_29 : decode cX9_alive 29 = .ok (.iadd, 1) := by decide +kernel
theorem dX9_alive_30 : decode cX9_alive 30 = .ok (.iload_n 2, 1) := by decide +kernel
theorem dX9_alive_31 : decode cX9_alive 31 = .ok (.ifCond .eq 7, 3) := by decide +kernel
theorem dX9_alive_34 : decode cX9_alive 34 = .ok (.iconst 1, 1) := by decide +kernel
theorem dX9_alive_35 : decode cX9_alive 35 = .ok (.goto 4, 3) := by decide +kernel
theorem dX9_alive_38 : decode cX9_alive 38 = .ok (.iconst 0, 1) := by decide +kernel
theorem dX9_alive_39 : decode cX9_alive 39 = .ok (.iastore, 1) := by decide +kernel
theorem dX9_alive_40 : decode cX9_alive 40 = .ok (.iload_n 3, 1) := by decide +kernel
theorem dX9_alive_41 : decode cX9_alive 41 = .ok (.ireturn, 1) := by decide +kernel
theorem dX9_wordOf_0 : decode cX9_wordOf 0 = .ok (.aload_n 0, 1) := by decide +kernel
theorem dX9_wordOf_1 : decode cX9_wordOf 1 = .ok (.getfield 46, 3) := by decide +kernel
theorem dX9_wordOf_4 : decode cX9_wordOf 4 = .ok (.iconst 4, 1) := by decide +kernel
theorem dX9_wordOf_5 : decode cX9_wordOf 5 = .ok (.iload_n 1, 1) := by decide +kernel
theorem dX9_wordOf_6 : decode cX9_wordOf 6 = .ok (.imul, 1) := by decide +kernel
theorem dX9_wordOf_7 : decode cX9_wordOf 7 = .ok (.iconst 2, 1) := by decide +kernel
theorem dX9_wordOf_8 : decode cX9_wordOf 8 = .ok (.iadd, 1) := by decide +kernel
theorem dX9_wordOf_9 : decode cX9_wordOf 9 = .ok (.iaload, 1) := by decide +kernel
theorem dX9_wordOf_10 : decode cX9_wordOf 10 = .ok (.istore_n 3, 1) := by decide +kernel
theorem dX9_wordOf_11 : decode cX9_wordOf 11 = .ok (.iload_n 2, 1) := by decide +kernel
theorem dX9_wordOf_12 : decode cX9_wordOf 12 = .ok (.aload_n 0, 1) := by decide +kernel
theorem dX9_wordOf_13 : decode cX9_wordOf 13 = .ok (.getfield 25, 3) := by decide +kernel
theorem dX9_wordOf_16 : decode cX9_wordOf 16 = .ok (.iload_n 3, 1) := by decide +kernel
theorem dX9_wordOf_17 : decode cX9_wordOf 17 = .ok (.iaload, 1) := by decide +kernel
theorem dX9_wordOf_18 : decode cX9_wordOf 18 = .ok (.if_icmp .ge 17, 3) := by decide +kernel
theorem dX9_wordOf_21 : decode cX9_wordOf 21 = .ok (.aload_n 0, 1) := by decide +kernel
theorem dX9_wordOf_22 : decode cX9_wordOf 22 = .ok (.getfield 28, 3) := by decide +kernel
theorem dX9_wordOf_25 : decode cX9_wordOf 25 = .ok (.bipush 8, 2) := by decide +kernel
theorem dX9_wordOf_27 : decode cX9_wordOf 27 = .ok (.iload_n 3, 1) := by decide +kernel
theorem dX9_wordOf_28 : decode cX9_wordOf 28 = .ok (.imul, 1) := by decide +kernel
theorem dX9_wordOf_29 : decode cX9_wordOf 29 = .ok (.iload_n 2, 1) := by decide +kernel
theorem dX9_wordOf_30 : decode cX9_wordOf 30 = .ok (.iadd, 1) := by decide +kernel
theorem dX9_wordOf_31 : decode cX9_wordOf 31 = .ok (.iaload, 1) := by decide +kernel
theorem dX9_wordOf_32 : decode cX9_wordOf 32 = .ok (.goto 5, 3) := by decide +kernel
theorem dX9_wordOf_35 : decode cX9_wordOf 35 = .ok (.bipush (-4), 2) := by decide +kernel
theorem dX9_wordOf_37 : decode cX9_wordOf 37 = .ok (.ireturn, 1) := by decide +kernel
theorem dX9_same_0 : decode cX9_same 0 = .ok (.iload_n 1, 1) := by decide +kernel
theorem dX9_same_1 : decode cX9_same 1 = .ok (.invokestatic 154, 3) := by decide +kernel
theorem dX9_same_4 : decode cX9_same 4 = .ok (.ifCond .ne 5, 3) := by decide +kernel
theorem dX9_same_7 : decode cX9_same 7 = .ok (.iconst (-1), 1) := by decide +kernel
theorem dX9_same_8 : decode cX9_same 8 = .ok (.ireturn, 1) := by decide +kernel
theorem dX9_same_9 : decode cX9_same 9 = .ok (.bipush (-4), 2) := by decide +kernel
theorem dX9_same_11 : decode cX9_same 11 = .ok (.istore_n 2, 1) := by decide +kernel
theorem dX9_same_12 : decode cX9_same 12 = .ok (.iconst 1, 1) := by decide +kernel
theorem dX9_same_13 : decode cX9_same 13 = .ok (.istore_n 3, 1) := by decide +kernel
theorem dX9_same_14 : decode cX9_same 14 = .ok (.iconst 0, 1) := by decide +kernel
theorem dX9_same_15 : decode cX9_same 15 = .ok (.istore 4, 2) := by decide +kernel
theorem dX9_same_17 : decode cX9_same 17 = .ok (.iload 4, 2) := by decide +kernel
theorem dX9_same_19 : decode cX9_same 19 = .ok (.aload_n 0, 1) := by decide +kernel
theorem dX9_same_20 : decode cX9_same 20 = .ok (.getfield 143, 3) := by decide +kernel
theorem dX9_same_23 : decode cX9_same 23 = .ok (.if_icmp .ge 75, 3) := by decide +kernel
theorem dX9_same_26 : decode cX9_same 26 = .ok (.aload_n 0, 1) := by decide +kernel
theorem dX9_same_27 : decode cX9_same 27 = .ok (.iload 4, 2) := by decide +kernel
theorem dX9_same_29 : decode cX9_same 29 = .ok (.invokevirtual 263, 3) := by decide +kernel
theorem dX9_same_32 : decode cX9_same 32 = .ok (.ifCond .eq 13, 3) := by decide +kernel
theorem dX9_same_35 : decode cX9_same 35 = .ok (.aload_n 0, 1) := by decide +kernel
theorem dX9_same_36 : decode cX9_same 36 = .ok (.iload 4, 2) := by decide +kernel
theorem dX9_same_38 : decode cX9_same 38 = .ok (.iload_n 1, 1) := by decide +kernel
theorem dX9_same_39 : decode cX9_same 39 = .ok (.invokevirtual 266, 3) := by decide +kernel
theorem dX9_same_42 : decode cX9_same 42 = .ok (.goto 5, 3) := by decide +kernel
theorem dX9_same_45 : decode cX9_same 45 = .ok (.bipush (-4), 2) := by decide +kernel
theorem dX9_same_47 : decode cX9_same 47 = .ok (.istore 5, 2) := by decide +kernel
theorem dX9_same_49 : decode cX9_same 49 = .ok (.iload_n 3, 1) := by decide +kernel
theorem dX9_same_50 : decode cX9_same 50 = .ok (.ifCond .eq 26, 3) := by decide +kernel
theorem dX9_same_53 : decode cX9_same 53 = .ok (.iload 5, 2) := by decide +kernel
theorem dX9_same_55 : decode cX9_same 55 = .ok (.bipush (-4), 2) := by decide +kernel
theorem dX9_same_57 : decode cX9_same 57 = .ok (.if_icmp .eq 15, 3) := by decide +kernel
theorem dX9_same_60 : decode cX9_same 60 = .ok (.iload_n 2, 1) := by decide +kernel
theorem dX9_same_61 : decode cX9_same 61 = .ok (.bipush (-4), 2) := by decide +kernel
theorem dX9_same_63 : decode cX9_same 63 = .ok (.if_icmp .eq 9, 3) := by decide +kernel
theorem dX9_same_66 : decode cX9_same 66 = .ok (.iload 5, 2) := by decide +kernel
theorem dX9_same_68 : decode cX9_same 68 = .ok (.iload_n 2, 1) := by decide +kernel
theorem dX9_same_69 : decode cX9_same 69 = .ok (.if_icmp .ne 7, 3) := by decide +kernel
theorem dX9_same_72 : decode cX9_same 72 = .ok (.iconst 1, 1) := by decide +kernel
theorem dX9_same_73 : decode cX9_same 73 = .ok (.goto 4, 3) := by decide +kernel
theorem dX9_same_76 : decode cX9_same 76 = .ok (.iconst 0, 1) := by decide +kernel
theorem dX9_same_77 : decode cX9_same 77 = .ok (.istore_n 3, 1) := by decide +kernel
theorem dX9_same_78 : decode cX9_same 78 = .ok (.iload 5, 2) := by decide +kernel
theorem dX9_same_80 : decode cX9_same 80 = .ok (.bipush (-4), 2) := by decide +kernel
theorem dX9_same_82 : decode cX9_same 82 = .ok (.if_icmp .ne 7, 3) := by decide +kernel
theorem dX9_same_85 : decode cX9_same 85 = .ok (.iload_n 2, 1) := by decide +kernel
theorem dX9_same_86 : decode cX9_same 86 = .ok (.goto 5, 3) := by decide +kernel
theorem dX9_same_89 : decode cX9_same 89 = .ok (.iload 5, 2) := by decide +kernel
theorem dX9_same_91 : decode cX9_same 91 = .ok (.istore_n 2, 1) := by decide +kernel
theorem dX9_same_92 : decode cX9_same 92 = .ok (.iinc 4 1, 3) := by decide +kernel
theorem dX9_same_95 : decode cX9_same 95 = .ok (.goto (-78), 3) := by decide +kernel
theorem dX9_same_98 : decode cX9_same 98 = .ok (.iload_n 3, 1) := by decide +kernel
theorem dX9_same_99 : decode cX9_same 99 = .ok (.ifCond .eq 7, 3) := by decide +kernel
theorem dX9_same_102 : decode cX9_same 102 = .ok (.iconst 1, 1) := by decide +kernel
theorem dX9_same_103 : decode cX9_same 103 = .ok (.goto 4, 3) := by decide +kernel
theorem dX9_same_106 : decode cX9_same 106 = .ok (.iconst 0, 1) := by decide +kernel
theorem dX9_same_107 : decode cX9_same 107 = .ok (.ireturn, 1) := by decide +kernel
theorem dX9_isFrom_0 : decode cX9_isFrom 0 = .ok (.iload_n 1, 1) := by decide +kernel
theorem dX9_isFrom_1 : decode cX9_isFrom 1 = .ok (.istore_n 3, 1) := by decide +kernel
theorem dX9_isFrom_2 : decode cX9_isFrom 2 = .ok (.iload_n 3, 1) := by decide +kernel
theorem dX9_isFrom_3 : decode cX9_isFrom 3 = .ok (.ifCond .lt 22, 3) := by decide +kernel
theorem dX9_isFrom_6 : decode cX9_isFrom 6 = .ok (.iload_n 3, 1) := by decide +kernel
theorem dX9_isFrom_7 : decode cX9_isFrom 7 = .ok (.iload_n 2, 1) := by decide +kernel
theorem dX9_isFrom_8 : decode cX9_isFrom 8 = .ok (.if_icmp .eq 17, 3) := by decide +kernel
theorem dX9_isFrom_11 : decode cX9_isFrom 11 = .ok (.aload_n 0, 1) := by decide +kernel
theorem dX9_isFrom_12 : decode cX9_isFrom 12 = .ok (.getfield 46, 3) := by decide +kernel
theorem dX9_isFrom_15 : decode cX9_isFrom 15 = .ok (.iconst 4, 1) := by decide +kernel
theorem dX9_isFrom_16 : decode cX9_isFrom 16 = .ok (.iload_n 3, 1) := by decide +kernel
theorem dX9_isFrom_17 : decode cX9_isFrom 17 = .ok (.imul, 1) := by decide +kernel
theorem dX9_isFrom_18 : decode cX9_isFrom 18 = .ok (.iconst 1, 1) := by decide +kernel
theorem dX9_isFrom_19 : decode cX9_isFrom 19 = .ok (.iadd, 1) := by decide +kernel
theorem dX9_isFrom_20 : decode cX9_isFrom 20 = .ok (.iaload, 1) := by decide +kernel
theorem dX9_isFrom_21 : decode cX9_isFrom 21 = .ok (.istore_n 3, 1) := by decide +kernel
theorem dX9_isFrom_22 : decode cX9_isFrom 22 = .ok (.goto (-20), 3) := by decide +kernel
theorem dX9_isFrom_25 : decode cX9_isFrom 25 = .ok (.iload_n 3, 1) := by decide +kernel
theorem dX9_isFrom_26 : decode cX9_isFrom 26 = .ok (.iload_n 2, 1) := by decide +kernel
theorem dX9_isFrom_27 : decode cX9_isFrom 27 = .ok (.if_icmp .ne 7, 3) := by decide +kernel
theorem dX9_isFrom_30 : decode cX9_isFrom 30 = .ok (.iconst 1, 1) := by decide +kernel
theorem dX9_isFrom_31 : decode cX9_isFrom 31 = .ok (.goto 4, 3) := by decide +kernel
theorem dX9_isFrom_34 : decode cX9_isFrom 34 = .ok (.iconst 0, 1) := by decide +kernel
theorem dX9_isFrom_35 : decode cX9_isFrom 35 = .ok (.ireturn, 1) := by decide +kernel
theorem dX9_since_0 : decode cX9_since 0 = .ok (.iload_n 1, 1) := by decide +kernel
theorem dX9_since_1 : decode cX9_since 1 = .ok (.invokestatic 154, 3) := by decide +kernel
theorem dX9_since_4 : decode cX9_since 4 = .ok (.ifCond .eq 11, 3) := by decide +kernel
theorem dX9_since_7 : decode cX9_since 7 = .ok (.aload_n 0, 1) := by decide +kernel
theorem dX9_since_8 : decode cX9_since 8 = .ok (.iload_n 2, 1) := by decide +kernel
theorem dX9_since_9 : decode cX9_since 9 = .ok (.invokevirtual 151, 3) := by decide +kernel
theorem dX9_since_12 : decode cX9_since 12 = .ok (.ifCond .ne 5, 3) := by decide +kernel
theorem dX9_since_15 : decode cX9_since 15 = .ok (.iconst (-1), 1) := by decide +kernel
theorem dX9_since_16 : decode cX9_since 16 = .ok (.ireturn, 1) := by decide +kernel
theorem dX9_since_17 : decode cX9_since 17 = .ok (.bipush (-4), 2) := by decide +kernel
theorem dX9_since_19 : decode cX9_since 19 = .ok (.istore_n 3, 1) := by decide +kernel
theorem dX9_since_20 : decode cX9_since 20 = .ok (.iconst 0, 1) := by decide +kernel
theorem dX9_since_21 : decode cX9_since 21 = .ok (.istore 4, 2) := by decide +kernel
theorem dX9_since_23 : decode cX9_since 23 = .ok (.iconst 1, 1) := by decide +kernel
theorem dX9_since_24 : decode cX9_since 24 = .ok (.istore 5, 2) := by decide +kernel
theorem dX9_since_26 : decode cX9_since 26 = .ok (.iconst 0, 1) := by decide +kernel
theorem dX9_since_27 : decode cX9_since 27 = .ok (.istore 6, 2) := by decide +kernel
theorem dX9_since_29 : decode cX9_since 29 = .ok (.iload 6, 2) := by decide +kernel
theorem dX9_since_31 : decode cX9_since 31 = .ok (.aload_n 0, 1) := by decide +kernel
theorem dX9_since_32 : decode cX9_since 32 = .ok (.getfield 143, 3) := by decide +kernel
theorem dX9_since_35 : decode cX9_since 35 = .ok (.if_icmp .ge 62, 3) := by decide +kernel
theorem dX9_since_38 : decode cX9_since 38 = .ok (.iload 4, 2) := by decide +kernel
theorem dX9_since_40 : decode cX9_since 40 = .ok (.ifCond .ne 12, 3) := by decide +kernel
theorem dX9_since_43 : decode cX9_since 43 = .ok (.aload_n 0, 1) := by decide +kernel
theorem dX9_since_44 : decode cX9_since 44 = .ok (.iload 6, 2) := by decide +kernel
theorem dX9_since_46 : decode cX9_since 46 = .ok (.invokevirtual 263, 3) := by decide +kernel
theorem dX9_since_49 : decode cX9_since 49 = .ok (.ifCond .eq 7, 3) := by decide +kernel
theorem dX9_since_52 : decode cX9_since 52 = .ok (.iconst 1, 1) := by decide +kernel
theorem dX9_since_53 : decode cX9_since 53 = .ok (.goto 4, 3) := by decide +kernel
theorem dX9_since_56 : decode cX9_since 56 = .ok (.iconst 0, 1) := by decide +kernel
theorem dX9_since_57 : decode cX9_since 57 = .ok (.istore 4, 2) := by decide +kernel
theorem dX9_since_59 : decode cX9_since 59 = .ok (.iload 5, 2) := by decide +kernel
theorem dX9_since_61 : decode cX9_since 61 = .ok (.ifCond .eq 27, 3) := by decide +kernel
theorem dX9_since_64 : decode cX9_since 64 = .ok (.aload_n 0, 1) := by decide +kernel
theorem dX9_since_65 : decode cX9_since 65 = .ok (.iload 6, 2) := by decide +kernel
theorem dX9_since_67 : decode cX9_since 67 = .ok (.invokevirtual 263, 3) := by decide +kernel
theorem dX9_since_70 : decode cX9_since 70 = .ok (.ifCond .eq 14, 3) := by decide +kernel
theorem dX9_since_73 : decode cX9_since 73 = .ok (.aload_n 0, 1) := by decide +kernel
theorem dX9_since_74 : decode cX9_since 74 = .ok (.iload 6, 2) := by decide +kernel
theorem dX9_since_76 : decode cX9_since 76 = .ok (.iload_n 1, 1) := by decide +kernel
theorem dX9_since_77 : decode cX9_since 77 = .ok (.invokevirtual 266, 3) := by decide +kernel
theorem dX9_since_80 : decode cX9_since 80 = .ok (.iload_n 2, 1) := by decide +kernel
theorem dX9_since_81 : decode cX9_since 81 = .ok (.if_icmp .ne 7, 3) := by decide +kernel
theorem dX9_since_84 : decode cX9_since 84 = .ok (.iconst 1, 1) := by decide +kernel
theorem dX9_since_85 : decode cX9_since 85 = .ok (.goto 4, 3) := by decide +kernel
theorem dX9_since_88 : decode cX9_since 88 = .ok (.iconst 0, 1) := by decide +kernel
theorem dX9_since_89 : decode cX9_since 89 = .ok (.istore 5, 2) := by decide +kernel
theorem dX9_since_91 : decode cX9_since 91 = .ok (.iinc 6 1, 3) := by decide +kernel
theorem dX9_since_94 : decode cX9_since 94 = .ok (.goto (-65), 3) := by decide +kernel
theorem dX9_since_97 : decode cX9_since 97 = .ok (.iconst 0, 1) := by decide +kernel
theorem dX9_since_98 : decode cX9_since 98 = .ok (.istore 6, 2) := by decide +kernel
theorem dX9_since_100 : decode cX9_since 100 = .ok (.iload 6, 2) := by decide +kernel
theorem dX9_since_102 : decode cX9_since 102 = .ok (.aload_n 0, 1) := by decide +kernel
theorem dX9_since_103 : decode cX9_since 103 = .ok (.getfield 143, 3) := by decide +kernel
theorem dX9_since_106 : decode cX9_since 106 = .ok (.if_icmp .ge 104, 3) := by decide +kernel
theorem dX9_since_109 : decode cX9_since 109 = .ok (.iload 4, 2) := by decide +kernel
theorem dX9_since_111 : decode cX9_since 111 = .ok (.ifCond .eq 99, 3) := by decide +kernel
theorem dX9_since_114 : decode cX9_since 114 = .ok (.iload 5, 2) := by decide +kernel
theorem dX9_since_116 : decode cX9_since 116 = .ok (.ifCond .eq 94, 3) := by decide +kernel
theorem dX9_since_119 : decode cX9_since 119 = .ok (.iconst 1, 1) := by decide +kernel
theorem dX9_since_120 : decode cX9_since 120 = .ok (.istore 7, 2) := by decide +kernel
theorem dX9_since_122 : decode cX9_since 122 = .ok (.iconst 0, 1) := by decide +kernel
theorem dX9_since_123 : decode cX9_since 123 = .ok (.istore 8, 2) := by decide +kernel
theorem dX9_since_125 : decode cX9_since 125 = .ok (.iload 8, 2) := by decide +kernel
theorem dX9_since_127 : decode cX9_since 127 = .ok (.aload_n 0, 1) := by decide +kernel
theorem dX9_since_128 : decode cX9_since 128 = .ok (.getfield 143, 3) := by decide +kernel
theorem dX9_since_131 : decode cX9_since 131 = .ok (.if_icmp .ge 41, 3) := by decide +kernel
theorem dX9_since_134 : decode cX9_since 134 = .ok (.iload 7, 2) := by decide +kernel
theorem dX9_since_136 : decode cX9_since 136 = .ok (.ifCond .eq 27, 3) := by decide +kernel
theorem dX9_since_139 : decode cX9_since 139 = .ok (.aload_n 0, 1) := by decide +kernel
theorem dX9_since_140 : decode cX9_since 140 = .ok (.iload 8, 2) := by decide +kernel
theorem dX9_since_142 : decode cX9_since 142 = .ok (.invokevirtual 263, 3) := by decide +kernel
theorem dX9_since_145 : decode cX9_since 145 = .ok (.ifCond .eq 14, 3) := by decide +kernel
theorem dX9_since_148 : decode cX9_since 148 = .ok (.aload_n 0, 1) := by decide +kernel
theorem dX9_since_149 : decode cX9_since 149 = .ok (.iload 8, 2) := by decide +kernel
theorem dX9_since_151 : decode cX9_since 151 = .ok (.iload 6, 2) := by decide +kernel
theorem dX9_since_153 : decode cX9_since 153 = .ok (.invokevirtual 269, 3) := by decide +kernel
theorem dX9_since_156 : decode cX9_since 156 = .ok (.ifCond .eq 7, 3) := by decide +kernel
theorem dX9_since_159 : decode cX9_since 159 = .ok (.iconst 1, 1) := by decide +kernel
theorem dX9_since_160 : decode cX9_since 160 = .ok (.goto 4, 3) := by decide +kernel
theorem dX9_since_163 : decode cX9_since 163 = .ok (.iconst 0, 1) := by decide +kernel
theorem dX9_since_164 : decode cX9_since 164 = .ok (.istore 7, 2) := by decide +kernel
theorem dX9_since_166 : decode cX9_since 166 = .ok (.iinc 8 1, 3) := by decide +kernel
theorem dX9_since_169 : decode cX9_since 169 = .ok (.goto (-44), 3) := by decide +kernel
theorem dX9_since_172 : decode cX9_since 172 = .ok (.iload 7, 2) := by decide +kernel
theorem dX9_since_174 : decode cX9_since 174 = .ok (.ifCond .eq 28, 3) := by decide +kernel
theorem dX9_since_177 : decode cX9_since 177 = .ok (.aload_n 0, 1) := by decide +kernel
theorem dX9_since_178 : decode cX9_since 178 = .ok (.getfield 46, 3) := by decide +kernel
theorem dX9_since_181 : decode cX9_since 181 = .ok (.iconst 4, 1) := by decide +kernel
theorem dX9_since_182 : decode cX9_since 182 = .ok (.iload 6, 2) := by decide +kernel
theorem dX9_since_184 : decode cX9_since 184 = .ok (.imul, 1) := by decide +kernel
theorem dX9_since_185 : decode cX9_since 185 = .ok (.iaload, 1) := by decide +kernel
theorem dX9_since_186 : decode cX9_since 186 = .ok (.iload_n 3, 1) := by decide +kernel
theorem dX9_since_187 : decode cX9_since 187 = .ok (.if_icmp .le 15, 3) := by decide +kernel
theorem dX9_since_190 : decode cX9_since 190 = .ok (.aload_n 0, 1) := by decide +kernel
theorem dX9_since_191 : decode cX9_since 191 = .ok (.getfield 46, 3) := by decide +kernel
theorem dX9_since_194 : decode cX9_since 194 = .ok (.iconst 4, 1) := by decide +kernel
theorem dX9_since_195 : decode cX9_since 195 = .ok (.iload 6, 2) := by decide +kernel
theorem dX9_since_197 : decode cX9_since 197 = .ok (.imul, 1) := by decide +kernel
theorem dX9_since_198 : decode cX9_since 198 = .ok (.iaload, 1) := by decide +kernel
theorem dX9_since_199 : decode cX9_since 199 = .ok (.goto 4, 3) := by decide +kernel
theorem dX9_since_202 : decode cX9_since 202 = .ok (.iload_n 3, 1) := by decide +kernel
theorem dX9_since_203 : decode cX9_since 203 = .ok (.istore_n 3, 1) := by decide +kernel
theorem dX9_since_204 : decode cX9_since 204 = .ok (.iinc 6 1, 3) := by decide +kernel
theorem dX9_since_207 : decode cX9_since 207 = .ok (.goto (-107), 3) := by decide +kernel
theorem dX9_since_210 : decode cX9_since 210 = .ok (.iload_n 3, 1) := by decide +kernel
theorem dX9_since_211 : decode cX9_since 211 = .ok (.ireturn, 1) := by decide +kernel
theorem dX9_areHeads_0 : decode cX9_areHeads 0 = .ok (.iload_n 1, 1) := by decide +kernel
theorem dX9_areHeads_1 : decode cX9_areHeads 1 = .ok (.i2l, 1) := by decide +kernel
theorem dX9_areHeads_2 : decode cX9_areHeads 2 = .ok (.lconst 0, 1) := by decide +kernel
theorem dX9_areHeads_3 : decode cX9_areHeads 3 = .ok (.iconst 1, 1) := by decide +kernel
theorem dX9_areHeads_4 : decode cX9_areHeads 4 = .ok (.aload_n 0, 1) := by decide +kernel
theorem dX9_areHeads_5 : decode cX9_areHeads 5 = .ok (.getfield 143, 3) := by decide +kernel
theorem dX9_areHeads_8 : decode cX9_areHeads 8 = .ok (.ishl, 1) := by decide +kernel
theorem dX9_areHeads_9 : decode cX9_areHeads 9 = .ok (.iconst 1, 1) := by decide +kernel
theorem dX9_areHeads_10 : decode cX9_areHeads 10 = .ok (.isub, 1) := by decide +kernel
theorem dX9_areHeads_11 : decode cX9_areHeads 11 = .ok (.i2l, 1) := by decide +kernel
theorem dX9_areHeads_12 : decode cX9_areHeads 12 = .ok (.invokestatic 92, 3) := by decide +kernel
theorem dX9_areHeads_15 : decode cX9_areHeads 15 = .ok (.ireturn, 1) := by decide +kernel
theorem dX9_lost_0 : decode cX9_lost 0 = .ok (.aload_n 0, 1) := by decide +kernel
theorem dX9_lost_1 : decode cX9_lost 1 = .ok (.iload_n 1, 1) := by decide +kernel
theorem dX9_lost_2 : decode cX9_lost 2 = .ok (.invokevirtual 272, 3) := by decide +kernel
theorem dX9_lost_5 : decode cX9_lost 5 = .ok (.ifCond .ne 5, 3) := by decide +kernel
theorem dX9_lost_8 : decode cX9_lost 8 = .ok (.iconst (-1), 1) := by decide +kernel
theorem dX9_lost_9 : decode cX9_lost 9 = .ok (.ireturn, 1) := by decide +kernel
theorem dX9_lost_10 : decode cX9_lost 10 = .ok (.iconst 0, 1) := by decide +kernel
theorem dX9_lost_11 : decode cX9_lost 11 = .ok (.istore_n 2, 1) := by decide +kernel
theorem dX9_lost_12 : decode cX9_lost 12 = .ok (.iconst 0, 1) := by decide +kernel
theorem dX9_lost_13 : decode cX9_lost 13 = .ok (.istore_n 3, 1) := by decide +kernel
theorem dX9_lost_14 : decode cX9_lost 14 = .ok (.iconst 0, 1) := by decide +kernel
theorem dX9_lost_15 : decode cX9_lost 15 = .ok (.istore 4, 2) := by decide +kernel
theorem dX9_lost_17 : decode cX9_lost 17 = .ok (.iload 4, 2) := by decide +kernel
theorem dX9_lost_19 : decode cX9_lost 19 = .ok (.aload_n 0, 1) := by decide +kernel
theorem dX9_lost_20 : decode cX9_lost 20 = .ok (.getfield 143, 3) := by decide +kernel
theorem dX9_lost_23 : decode cX9_lost 23 = .ok (.if_icmp .ge 60, 3) := by decide +kernel
theorem dX9_lost_26 : decode cX9_lost 26 = .ok (.aload_n 0, 1) := by decide +kernel
theorem dX9_lost_27 : decode cX9_lost 27 = .ok (.iload 4, 2) := by decide +kernel
theorem dX9_lost_29 : decode cX9_lost 29 = .ok (.invokevirtual 263, 3) := by decide +kernel
theorem dX9_lost_32 : decode cX9_lost 32 = .ok (.ifCond .eq 19, 3) := by decide +kernel
theorem dX9_lost_35 : decode cX9_lost 35 = .ok (.iconst 1, 1) := by decide +kernel
theorem dX9_lost_36 : decode cX9_lost 36 = .ok (.aload_n 0, 1) := by decide +kernel
theorem dX9_lost_37 : decode cX9_lost 37 = .ok (.getfield 46, 3) := by decide +kernel
theorem dX9_lost_40 : decode cX9_lost 40 = .ok (.iconst 4, 1) := by decide +kernel
theorem dX9_lost_41 : decode cX9_lost 41 = .ok (.iload 4, 2) := by decide +kernel
theorem dX9_lost_43 : decode cX9_lost 43 = .ok (.imul, 1) := by decide +kernel
theorem dX9_lost_44 : decode cX9_lost 44 = .ok (.iconst 2, 1) := by decide +kernel
theorem dX9_lost_45 : decode cX9_lost 45 = .ok (.iadd, 1) := by decide +kernel
theorem dX9_lost_46 : decode cX9_lost 46 = .ok (.iaload, 1) := by decide +kernel
theorem dX9_lost_47 : decode cX9_lost 47 = .ok (.ishl, 1) := by decide +kernel
theorem dX9_lost_48 : decode cX9_lost 48 = .ok (.goto 4, 3) := by decide +kernel
theorem dX9_lost_51 : decode cX9_lost 51 = .ok (.iconst 0, 1) := by decide +kernel
theorem dX9_lost_52 : decode cX9_lost 52 = .ok (.istore 5, 2) := by decide +kernel
theorem dX9_lost_54 : decode cX9_lost 54 = .ok (.iload_n 2, 1) := by decide +kernel
theorem dX9_lost_55 : decode cX9_lost 55 = .ok (.iload 5, 2) := by decide +kernel
theorem dX9_lost_57 : decode cX9_lost 57 = .ok (.ior, 1) := by decide +kernel
theorem dX9_lost_58 : decode cX9_lost 58 = .ok (.istore_n 2, 1) := by decide +kernel
theorem dX9_lost_59 : decode cX9_lost 59 = .ok (.iload_n 3, 1) := by decide +kernel
theorem dX9_lost_60 : decode cX9_lost 60 = .ok (.iload_n 1, 1) := by decide +kernel
theorem dX9_lost_61 : decode cX9_lost 61 = .ok (.iload 4, 2) := by decide +kernel
theorem dX9_lost_63 : decode cX9_lost 63 = .ok (.invokestatic 176, 3) := by decide +kernel
theorem dX9_lost_66 : decode cX9_lost 66 = .ok (.ifCond .eq 7, 3) := by decide +kernel
theorem dX9_lost_69 : decode cX9_lost 69 = .ok (.iconst 0, 1) := by decide +kernel
theorem dX9_lost_70 : decode cX9_lost 70 = .ok (.goto 5, 3) := by decide +kernel
theorem dX9_lost_73 : decode cX9_lost 73 = .ok (.iload 5, 2) := by decide +kernel
theorem dX9_lost_75 : decode cX9_lost 75 = .ok (.ior, 1) := by decide +kernel
theorem dX9_lost_76 : decode cX9_lost 76 = .ok (.istore_n 3, 1) := by decide +kernel
theorem dX9_lost_77 : decode cX9_lost 77 = .ok (.iinc 4 1, 3) := by decide +kernel
theorem dX9_lost_80 : decode cX9_lost 80 = .ok (.goto (-63), 3) := by decide +kernel
theorem dX9_lost_83 : decode cX9_lost 83 = .ok (.iload_n 2, 1) := by decide +kernel
theorem dX9_lost_84 : decode cX9_lost 84 = .ok (.iload_n 3, 1) := by decide +kernel
theorem dX9_lost_85 : decode cX9_lost 85 = .ok (.iconst (-1), 1) := by decide +kernel
theorem dX9_lost_86 : decode cX9_lost 86 = .ok (.ixor, 1) := by decide +kernel
theorem dX9_lost_87 : decode cX9_lost 87 = .ok (.iand, 1) := by decide +kernel
theorem dX9_lost_88 : decode cX9_lost 88 = .ok (.ireturn, 1) := by decide +kernel
theorem dX9_from_0 : decode cX9_from 0 = .ok (.aload_n 0, 1) := by decide +kernel
theorem dX9_from_1 : decode cX9_from 1 = .ok (.iload_n 1, 1) := by decide +kernel
theorem dX9_from_2 : decode cX9_from 2 = .ok (.invokevirtual 272, 3) := by decide +kernel
theorem dX9_from_5 : decode cX9_from 5 = .ok (.ifCond .eq 10, 3) := by decide +kernel
theorem dX9_from_8 : decode cX9_from 8 = .ok (.iload_n 2, 1) := by decide +kernel
theorem dX9_from_9 : decode cX9_from 9 = .ok (.invokestatic 148, 3) := by decide +kernel
theorem dX9_from_12 : decode cX9_from 12 = .ok (.ifCond .ne 5, 3) := by decide +kernel
theorem dX9_from_15 : decode cX9_from 15 = .ok (.iconst (-1), 1) := by decide +kernel
theorem dX9_from_16 : decode cX9_from 16 = .ok (.ireturn, 1) := by decide +kernel
theorem dX9_from_17 : decode cX9_from 17 = .ok (.iconst 0, 1) := by decide +kernel
theorem dX9_from_18 : decode cX9_from 18 = .ok (.istore_n 3, 1) := by decide +kernel
theorem dX9_from_19 : decode cX9_from 19 = .ok (.iload_n 3, 1) := by decide +kernel
theorem dX9_from_20 : decode cX9_from 20 = .ok (.aload_n 0, 1) := by decide +kernel
theorem dX9_from_21 : decode cX9_from 21 = .ok (.getfield 143, 3) := by decide +kernel
theorem dX9_from_24 : decode cX9_from 24 = .ok (.if_icmp .ge 41, 3) := by decide +kernel
theorem dX9_from_27 : decode cX9_from 27 = .ok (.aload_n 0, 1) := by decide +kernel
theorem dX9_from_28 : decode cX9_from 28 = .ok (.iload_n 3, 1) := by decide +kernel
theorem dX9_from_29 : decode cX9_from 29 = .ok (.invokevirtual 263, 3) := by decide +kernel
theorem dX9_from_32 : decode cX9_from 32 = .ok (.ifCond .eq 27, 3) := by decide +kernel
theorem dX9_from_35 : decode cX9_from 35 = .ok (.iload_n 1, 1) := by decide +kernel
theorem dX9_from_36 : decode cX9_from 36 = .ok (.iload_n 3, 1) := by decide +kernel
theorem dX9_from_37 : decode cX9_from 37 = .ok (.invokestatic 176, 3) := by decide +kernel
theorem dX9_from_40 : decode cX9_from 40 = .ok (.ifCond .ne 19, 3) := by decide +kernel
theorem dX9_from_43 : decode cX9_from 43 = .ok (.aload_n 0, 1) := by decide +kernel
theorem dX9_from_44 : decode cX9_from 44 = .ok (.getfield 46, 3) := by decide +kernel
theorem dX9_from_47 : decode cX9_from 47 = .ok (.iconst 4, 1) := by decide +kernel
theorem dX9_from_48 : decode cX9_from 48 = .ok (.iload_n 3, 1) := by decide +kernel
theorem dX9_from_49 : decode cX9_from 49 = .ok (.imul, 1) := by decide +kernel
theorem dX9_from_50 : decode cX9_from 50 = .ok (.iconst 2, 1) := by decide +kernel
theorem dX9_from_51 : decode cX9_from 51 = .ok (.iadd, 1) := by decide +kernel
theorem dX9_from_52 : decode cX9_from 52 = .ok (.iaload, 1) := by decide +kernel
theorem dX9_from_53 : decode cX9_from 53 = .ok (.iload_n 2, 1) := by decide +kernel
theorem dX9_from_54 : decode cX9_from 54 = .ok (.if_icmp .ne 5, 3) := by decide +kernel
theorem dX9_from_57 : decode cX9_from 57 = .ok (.iload_n 3, 1) := by decide +kernel
theorem dX9_from_58 : decode cX9_from 58 = .ok (.ireturn, 1) := by decide +kernel
theorem dX9_from_59 : decode cX9_from 59 = .ok (.iinc 3 1, 3) := by decide +kernel
theorem dX9_from_62 : decode cX9_from 62 = .ok (.goto (-43), 3) := by decide +kernel
theorem dX9_from_65 : decode cX9_from 65 = .ok (.bipush (-4), 2) := by decide +kernel
theorem dX9_from_67 : decode cX9_from 67 = .ok (.ireturn, 1) := by decide +kernel
theorem dX9_odds_0 : decode cX9_odds 0 = .ok (.iload_n 1, 1) := by decide +kernel
theorem dX9_odds_1 : decode cX9_odds 1 = .ok (.i2l, 1) := by decide +kernel
theorem dX9_odds_2 : decode cX9_odds 2 = .ok (.lconst 0, 1) := by decide +kernel
theorem dX9_odds_3 : decode cX9_odds 3 = .ok (.ldc2_w 275, 3) := by decide +kernel
theorem dX9_odds_6 : decode cX9_odds 6 = .ok (.invokestatic 92, 3) := by decide +kernel
theorem dX9_odds_9 : decode cX9_odds 9 = .ok (.ifCond .eq 38, 3) := by decide +kernel
theorem dX9_odds_12 : decode cX9_odds 12 = .ok (.iload_n 2, 1) := by decide +kernel
theorem dX9_odds_13 : decode cX9_odds 13 = .ok (.i2l, 1) := by decide +kernel
theorem dX9_odds_14 : decode cX9_odds 14 = .ok (.lconst 0, 1) := by decide +kernel
theorem dX9_odds_15 : decode cX9_odds 15 = .ok (.ldc2_w 275, 3) := by decide +kernel
theorem dX9_odds_18 : decode cX9_odds 18 = .ok (.invokestatic 92, 3) := by decide +kernel
theorem dX9_odds_21 : decode cX9_odds 21 = .ok (.ifCond .eq 26, 3) := by decide +kernel
theorem dX9_odds_24 : decode cX9_odds 24 = .ok (.iload_n 3, 1) := by decide +kernel
theorem dX9_odds_25 : decode cX9_odds 25 = .ok (.i2l, 1) := by decide +kernel
theorem dX9_odds_26 : decode cX9_odds 26 = .ok (.lconst 1, 1) := by decide +kernel
theorem dX9_odds_27 : decode cX9_odds 27 = .ok (.ldc2_w 128, 3) := by decide +kernel
theorem dX9_odds_30 : decode cX9_odds 30 = .ok (.invokestatic 92, 3) := by decide +kernel
theorem dX9_odds_33 : decode cX9_odds 33 = .ok (.ifCond .eq 14, 3) := by decide +kernel
theorem dX9_odds_36 : decode cX9_odds 36 = .ok (.iload 4, 2) := by decide +kernel
theorem dX9_odds_38 : decode cX9_odds 38 = .ok (.i2l, 1) := by decide +kernel
theorem dX9_odds_39 : decode cX9_odds 39 = .ok (.lconst 0, 1) := by decide +kernel
theorem dX9_odds_40 : decode cX9_odds 40 = .ok (.lconst 1, 1) := by decide +kernel
theorem dX9_odds_41 : decode cX9_odds 41 = .ok (.invokestatic 92, 3) := by decide +kernel
theorem dX9_odds_44 : decode cX9_odds 44 = .ok (.ifCond .ne 7, 3) := by decide +kernel
theorem dX9_odds_47 : decode cX9_odds 47 = .ok (.ldc2_w 258, 3) := by decide +kernel
theorem dX9_odds_50 : decode cX9_odds 50 = .ok (.lreturn, 1) := by decide +kernel
theorem dX9_odds_51 : decode cX9_odds 51 = .ok (.ldc2_w 277, 3) := by decide +kernel
theorem dX9_odds_54 : decode cX9_odds 54 = .ok (.iload_n 1, 1) := by decide +kernel
theorem dX9_odds_55 : decode cX9_odds 55 = .ok (.bipush 100, 2) := by decide +kernel
theorem dX9_odds_57 : decode cX9_odds 57 = .ok (.iload_n 2, 1) := by decide +kernel
theorem dX9_odds_58 : decode cX9_odds 58 = .ok (.isub, 1) := by decide +kernel
theorem dX9_odds_59 : decode cX9_odds 59 = .ok (.imul, 1) := by decide +kernel
theorem dX9_odds_60 : decode cX9_odds 60 = .ok (.i2l, 1) := by decide +kernel
theorem dX9_odds_61 : decode cX9_odds 61 = .ok (.lsub, 1) := by decide +kernel
theorem dX9_odds_62 : decode cX9_odds 62 = .ok (.lstore 5, 2) := by decide +kernel
theorem dX9_odds_64 : decode cX9_odds 64 = .ok (.ldc2_w 277, 3) := by decide +kernel
theorem dX9_odds_67 : decode cX9_odds 67 = .ok (.lstore 7, 2) := by decide +kernel
theorem dX9_odds_69 : decode cX9_odds 69 = .ok (.lload 7, 2) := by decide +kernel
theorem dX9_odds_71 : decode cX9_odds 71 = .ok (.lstore 9, 2) := by decide +kernel
theorem dX9_odds_73 : decode cX9_odds 73 = .ok (.lload 5, 2) := by decide +kernel
theorem dX9_odds_75 : decode cX9_odds 75 = .ok (.lstore 11, 2) := by decide +kernel
theorem dX9_odds_77 : decode cX9_odds 77 = .ok (.lload 11, 2) := by decide +kernel
theorem dX9_odds_79 : decode cX9_odds 79 = .ok (.lconst 0, 1) := by decide +kernel
theorem dX9_odds_80 : decode cX9_odds 80 = .ok (.lcmp, 1) := by decide +kernel
theorem dX9_odds_81 : decode cX9_odds 81 = .ok (.ifCond .eq 21, 3) := by decide +kernel
theorem dX9_odds_84 : decode cX9_odds 84 = .ok (.lload 9, 2) := by decide +kernel
theorem dX9_odds_86 : decode cX9_odds 86 = .ok (.lload 11, 2) := by decide +kernel
theorem dX9_odds_88 : decode cX9_odds 88 = .ok (.lrem, 1) := by decide +kernel
theorem dX9_odds_89 : decode cX9_odds 89 = .ok (.lstore 13, 2) := by decide +kernel
theorem dX9_odds_91 : decode cX9_odds 91 = .ok (.lload 11, 2) := by decide +kernel
theorem dX9_odds_93 : decode cX9_odds 93 = .ok (.lstore 9, 2) := by decide +kernel
theorem dX9_odds_95 : decode cX9_odds 95 = .ok (.lload 13, 2) := by decide +kernel
theorem dX9_odds_97 : decode cX9_odds 97 = .ok (.lstore 11, 2) := by decide +kernel
theorem dX9_odds_99 : decode cX9_odds 99 = .ok (.goto (-22), 3) := by decide +kernel
theorem dX9_odds_102 : decode cX9_odds 102 = .ok (.iload 4, 2) := by decide +kernel
theorem dX9_odds_104 : decode cX9_odds 104 = .ok (.ifCond .ne 11, 3) := by decide +kernel
theorem dX9_odds_107 : decode cX9_odds 107 = .ok (.lload 5, 2) := by decide +kernel
theorem dX9_odds_109 : decode cX9_odds 109 = .ok (.lload 9, 2) := by decide +kernel
theorem dX9_odds_111 : decode cX9_odds 111 = .ok (.ldiv, 1) := by decide +kernel
theorem dX9_odds_112 : decode cX9_odds 112 = .ok (.goto 8, 3) := by decide +kernel
theorem dX9_odds_115 : decode cX9_odds 115 = .ok (.lload 7, 2) := by decide +kernel
theorem dX9_odds_117 : decode cX9_odds 117 = .ok (.lload 9, 2) := by decide +kernel
theorem dX9_odds_119 : decode cX9_odds 119 = .ok (.ldiv, 1) := by decide +kernel
theorem dX9_odds_120 : decode cX9_odds 120 = .ok (.lstore 13, 2) := by decide +kernel
theorem dX9_odds_122 : decode cX9_odds 122 = .ok (.lconst 1, 1) := by decide +kernel
theorem dX9_odds_123 : decode cX9_odds 123 = .ok (.lstore 15, 2) := by decide +kernel
theorem dX9_odds_125 : decode cX9_odds 125 = .ok (.iconst 0, 1) := by decide +kernel
theorem dX9_odds_126 : decode cX9_odds 126 = .ok (.istore 17, 2) := by decide +kernel
theorem dX9_odds_128 : decode cX9_odds 128 = .ok (.iload 17, 2) := by decide +kernel
theorem dX9_odds_130 : decode cX9_odds 130 = .ok (.iload_n 3, 1) := by decide +kernel
theorem dX9_odds_131 : decode cX9_odds 131 = .ok (.if_icmp .ge 16, 3) := by decide +kernel
theorem dX9_odds_134 : decode cX9_odds 134 = .ok (.lload 15, 2) := by decide +kernel
theorem dX9_odds_136 : decode cX9_odds 136 = .ok (.lload 13, 2) := by decide +kernel
theorem dX9_odds_138 : decode cX9_odds 138 = .ok (.lmul, 1) := by decide +kernel
theorem dX9_odds_139 : decode cX9_odds 139 = .ok (.lstore 15, 2) := by decide +kernel
theorem dX9_odds_141 : decode cX9_odds 141 = .ok (.iinc 17 1, 3) := by decide +kernel
theorem dX9_odds_144 : decode cX9_odds 144 = .ok (.goto (-16), 3) := by decide +kernel
theorem dX9_odds_147 : decode cX9_odds 147 = .ok (.lload 15, 2) := by decide +kernel
theorem dX9_odds_149 : decode cX9_odds 149 = .ok (.lreturn, 1) := by decide +kernel
theorem dX9_copy_0 : decode cX9_copy 0 = .ok (.iconst 0, 1) := by decide +kernel
theorem dX9_copy_1 : decode cX9_copy 1 = .ok (.istore_n 3, 1) := by decide +kernel
theorem dX9_copy_2 : decode cX9_copy 2 = .ok (.iload_n 3, 1) := by decide +kernel
theorem dX9_copy_3 : decode cX9_copy 3 = .ok (.bipush 6, 2) := by decide +kernel
theorem dX9_copy_5 : decode cX9_copy 5 = .ok (.if_icmp .ge 31, 3) := by decide +kernel
theorem dX9_copy_8 : decode cX9_copy 8 = .ok (.aload_n 0, 1) := by decide +kernel
theorem dX9_copy_9 : decode cX9_copy 9 = .ok (.getfield 25, 3) := by decide +kernel
theorem dX9_copy_12 : decode cX9_copy 12 = .ok (.bipush 6, 2) := by decide +kernel
theorem dX9_copy_14 : decode cX9_copy 14 = .ok (.iload_n 2, 1) := by decide +kernel
theorem dX9_copy_15 : decode cX9_copy 15 = .ok (.imul, 1) := by decide +kernel
theorem dX9_copy_16 : decode cX9_copy 16 = .ok (.iload_n 3, 1) := by decide +kernel
theorem dX9_copy_17 : decode cX9_copy 17 = .ok (.iadd, 1) := by decide +kernel
theorem dX9_copy_18 : decode cX9_copy 18 = .ok (.aload_n 0, 1) := by decide +kernel
theorem dX9_copy_19 : decode cX9_copy 19 = .ok (.getfield 25, 3) := by decide +kernel
theorem dX9_copy_22 : decode cX9_copy 22 = .ok (.bipush 6, 2) := by decide +kernel
theorem dX9_copy_24 : decode cX9_copy 24 = .ok (.iload_n 1, 1) := by decide +kernel
theorem dX9_copy_25 : decode cX9_copy 25 = .ok (.imul, 1) := by decide +kernel
theorem dX9_copy_26 : decode cX9_copy 26 = .ok (.iload_n 3, 1) := by decide +kernel
theorem dX9_copy_27 : decode cX9_copy 27 = .ok (.iadd, 1) := by decide +kernel
theorem dX9_copy_28 : decode cX9_copy 28 = .ok (.iaload, 1) := by decide +kernel
theorem dX9_copy_29 : decode cX9_copy 29 = .ok (.iastore, 1) := by decide +kernel
theorem dX9_copy_30 : decode cX9_copy 30 = .ok (.iinc 3 1, 3) := by decide +kernel
theorem dX9_copy_33 : decode cX9_copy 33 = .ok (.goto (-31), 3) := by decide +kernel
theorem dX9_copy_36 : decode cX9_copy 36 = .ok (.iconst 0, 1) := by decide +kernel
theorem dX9_copy_37 : decode cX9_copy 37 = .ok (.istore_n 3, 1) := by decide +kernel
theorem dX9_copy_38 : decode cX9_copy 38 = .ok (.iload_n 3, 1) := by decide +kernel
theorem dX9_copy_39 : decode cX9_copy 39 = .ok (.bipush 48, 2) := by decide +kernel
theorem dX9_copy_41 : decode cX9_copy 41 = .ok (.if_icmp .ge 31, 3) := by decide +kernel
theorem dX9_copy_44 : decode cX9_copy 44 = .ok (.aload_n 0, 1) := by decide +kernel
theorem dX9_copy_45 : decode cX9_copy 45 = .ok (.getfield 28, 3) := by decide +kernel
theorem dX9_copy_48 : decode cX9_copy 48 = .ok (.bipush 48, 2) := by decide +kernel
theorem dX9_copy_50 : decode cX9_copy 50 = .ok (.iload_n 2, 1) := by decide +kernel
theorem dX9_copy_51 : decode cX9_copy 51 = .ok (.imul, 1) := by decide +kernel
theorem dX9_copy_52 : decode cX9_copy 52 = .ok (.iload_n 3, 1) := by decide +kernel
theorem dX9_copy_53 : decode cX9_copy 53 = .ok (.iadd, 1) := by decide +kernel
theorem dX9_copy_54 : decode cX9_copy 54 = .ok (.aload_n 0, 1) := by decide +kernel
theorem dX9_copy_55 : decode cX9_copy 55 = .ok (.getfield 28, 3) := by decide +kernel
theorem dX9_copy_58 : decode cX9_copy 58 = .ok (.bipush 48, 2) := by decide +kernel
theorem dX9_copy_60 : decode cX9_copy 60 = .ok (.iload_n 1, 1) := by decide +kernel
theorem dX9_copy_61 : decode cX9_copy 61 = .ok (.imul, 1) := by decide +kernel
theorem dX9_copy_62 : decode cX9_copy 62 = .ok (.iload_n 3, 1) := by decide +kernel
theorem dX9_copy_63 : decode cX9_copy 63 = .ok (.iadd, 1) := by decide +kernel
theorem dX9_copy_64 : decode cX9_copy 64 = .ok (.iaload, 1) := by decide +kernel
theorem dX9_copy_65 : decode cX9_copy 65 = .ok (.iastore, 1) := by decide +kernel
theorem dX9_copy_66 : decode cX9_copy 66 = .ok (.iinc 3 1, 3) := by decide +kernel
theorem dX9_copy_69 : decode cX9_copy 69 = .ok (.goto (-31), 3) := by decide +kernel
theorem dX9_copy_72 : decode cX9_copy 72 = .ok (.aload_n 0, 1) := by decide +kernel
theorem dX9_copy_73 : decode cX9_copy 73 = .ok (.getfield 31, 3) := by decide +kernel
theorem dX9_copy_76 : decode cX9_copy 76 = .ok (.iload_n 2, 1) := by decide +kernel
theorem dX9_copy_77 : decode cX9_copy 77 = .ok (.aload_n 0, 1) := by decide +kernel
theorem dX9_copy_78 : decode cX9_copy 78 = .ok (.getfield 31, 3) := by decide +kernel
theorem dX9_copy_81 : decode cX9_copy 81 = .ok (.iload_n 1, 1) := by decide +kernel
theorem dX9_copy_82 : decode cX9_copy 82 = .ok (.iaload, 1) := by decide +kernel
theorem dX9_copy_83 : decode cX9_copy 83 = .ok (.iastore, 1) := by decide +kernel
theorem dX9_copy_84 : decode cX9_copy 84 = .ok (.aload_n 0, 1) := by decide +kernel
theorem dX9_copy_85 : decode cX9_copy 85 = .ok (.getfield 34, 3) := by decide +kernel
theorem dX9_copy_88 : decode cX9_copy 88 = .ok (.iload_n 2, 1) := by decide +kernel
theorem dX9_copy_89 : decode cX9_copy 89 = .ok (.aload_n 0, 1) := by decide +kernel
theorem dX9_copy_90 : decode cX9_copy 90 = .ok (.getfield 34, 3) := by decide +kernel
theorem dX9_copy_93 : decode cX9_copy 93 = .ok (.iload_n 1, 1) := by decide +kernel
theorem dX9_copy_94 : decode cX9_copy 94 = .ok (.iaload, 1) := by decide +kernel
theorem dX9_copy_95 : decode cX9_copy 95 = .ok (.iastore, 1) := by decide +kernel
theorem dX9_copy_96 : decode cX9_copy 96 = .ok (.aload_n 0, 1) := by decide +kernel
theorem dX9_copy_97 : decode cX9_copy 97 = .ok (.getfield 37, 3) := by decide +kernel
theorem dX9_copy_100 : decode cX9_copy 100 = .ok (.iload_n 2, 1) := by decide +kernel
theorem dX9_copy_101 : decode cX9_copy 101 = .ok (.aload_n 0, 1) := by decide +kernel
theorem dX9_copy_102 : decode cX9_copy 102 = .ok (.getfield 37, 3) := by decide +kernel
theorem dX9_copy_105 : decode cX9_copy 105 = .ok (.iload_n 1, 1) := by decide +kernel
theorem dX9_copy_106 : decode cX9_copy 106 = .ok (.iaload, 1) := by decide +kernel
theorem dX9_copy_107 : decode cX9_copy 107 = .ok (.iastore, 1) := by decide +kernel
theorem dX9_copy_108 : decode cX9_copy 108 = .ok (.iconst 0, 1) := by decide +kernel
theorem dX9_copy_109 : decode cX9_copy 109 = .ok (.istore_n 3, 1) := by decide +kernel
theorem dX9_copy_110 : decode cX9_copy 110 = .ok (.iload_n 3, 1) := by decide +kernel
theorem dX9_copy_111 : decode cX9_copy 111 = .ok (.bipush 84, 2) := by decide +kernel
theorem dX9_copy_113 : decode cX9_copy 113 = .ok (.if_icmp .ge 31, 3) := by decide +kernel
theorem dX9_copy_116 : decode cX9_copy 116 = .ok (.aload_n 0, 1) := by decide +kernel
theorem dX9_copy_117 : decode cX9_copy 117 = .ok (.getfield 40, 3) := by decide +kernel
theorem dX9_copy_120 : decode cX9_copy 120 = .ok (.bipush 84, 2) := by decide +kernel
theorem dX9_copy_122 : decode cX9_copy 122 = .ok (.iload_n 2, 1) := by decide +kernel
theorem dX9_copy_123 : decode cX9_copy 123 = .ok (.imul, 1) := by decide +kernel
theorem dX9_copy_124 : decode cX9_copy 124 = .ok (.iload_n 3, 1) := by decide +kernel
theorem dX9_copy_125 : decode cX9_copy 125 = .ok (.iadd, 1) := by decide +kernel
theorem dX9_copy_126 : decode cX9_copy 126 = .ok (.aload_n 0, 1) := by decide +kernel
theorem dX9_copy_127 : decode cX9_copy 127 = .ok (.getfield 40, 3) := by decide +kernel
theorem dX9_copy_130 : decode cX9_copy 130 = .ok (.bipush 84, 2) := by decide +kernel
theorem dX9_copy_132 : decode cX9_copy 132 = .ok (.iload_n 1, 1) := by decide +kernel
theorem dX9_copy_133 : decode cX9_copy 133 = .ok (.imul, 1) := by decide +kernel
theorem dX9_copy_134 : decode cX9_copy 134 = .ok (.iload_n 3, 1) := by decide +kernel
theorem dX9_copy_135 : decode cX9_copy 135 = .ok (.iadd, 1) := by decide +kernel
theorem dX9_copy_136 : decode cX9_copy 136 = .ok (.iaload, 1) := by decide +kernel
theorem dX9_copy_137 : decode cX9_copy 137 = .ok (.iastore, 1) := by decide +kernel
theorem dX9_copy_138 : decode cX9_copy 138 = .ok (.iinc 3 1, 3) := by decide +kernel
theorem dX9_copy_141 : decode cX9_copy 141 = .ok (.goto (-31), 3) := by decide +kernel
theorem dX9_copy_144 : decode cX9_copy 144 = .ok (.return_, 1) := by decide +kernel
