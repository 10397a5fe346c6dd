theorem dX9_best_13 : decode cX9_best 13 = .ok (.if_icmp .ge 53, 3) := by decide +kernel
theorem dX9_best_16 : decode cX9_best 16 = .ok (.iload_n 2, 1) := by decide +kernel
theorem dX9_best_17 : decode cX9_best 17 = .ok (.iload 6, 2) := by decide +kernel
theorem dX9_best_19 : decode cX9_best 19 = .ok (.ishr, 1) := by decide +kernel
theorem dX9_best_20 : decode cX9_best 20 = .ok (.iconst 1, 1) := by decide +kernel
theorem dX9_best_21 : decode cX9_best 21 = .ok (.iand, 1) := by decide +kernel
theorem dX9_best_22 : decode cX9_best 22 = .ok (.ifCond .ne 6, 3) := by decide +kernel
theorem dX9_best_25 : decode cX9_best 25 = .ok (.goto 35, 3) := by decide +kernel
theorem dX9_best_28 : decode cX9_best 28 = .ok (.aload_n 0, 1) := by decide +kernel
theorem dX9_best_29 : decode cX9_best 29 = .ok (.iload_n 1, 1) := by decide +kernel
theorem dX9_best_30 : decode cX9_best 30 = .ok (.iload_n 2, 1) := by decide +kernel
theorem dX9_best_31 : decode cX9_best 31 = .ok (.iload_n 3, 1) := by decide +kernel
theorem dX9_best_32 : decode cX9_best 32 = .ok (.iload 6, 2) := by decide +kernel
theorem dX9_best_34 : decode cX9_best 34 = .ok (.invokevirtual 29, 3) := by decide +kernel
theorem dX9_best_37 : decode cX9_best 37 = .ok (.istore 7, 2) := by decide +kernel
theorem dX9_best_39 : decode cX9_best 39 = .ok (.iload 4, 2) := by decide +kernel
theorem dX9_best_41 : decode cX9_best 41 = .ok (.iconst (-1), 1) := by decide +kernel
theorem dX9_best_42 : decode cX9_best 42 = .ok (.if_icmp .eq 10, 3) := by decide +kernel
theorem dX9_best_45 : decode cX9_best 45 = .ok (.iload 7, 2) := by decide +kernel
theorem dX9_best_47 : decode cX9_best 47 = .ok (.iload 5, 2) := by decide +kernel
theorem dX9_best_49 : decode cX9_best 49 = .ok (.if_icmp .ge 11, 3) := by decide +kernel
theorem dX9_best_52 : decode cX9_best 52 = .ok (.iload 6, 2) := by decide +kernel
theorem dX9_best_54 : decode cX9_best 54 = .ok (.istore 4, 2) := by decide +kernel
theorem dX9_best_56 : decode cX9_best 56 = .ok (.iload 7, 2) := by decide +kernel
theorem dX9_best_58 : decode cX9_best 58 = .ok (.istore 5, 2) := by decide +kernel
theorem dX9_best_60 : decode cX9_best 60 = .ok (.iinc 6 1, 3) := by decide +kernel
theorem dX9_best_63 : decode cX9_best 63 = .ok (.goto (-54), 3) := by decide +kernel
theorem dX9_best_66 : decode cX9_best 66 = .ok (.iload 4, 2) := by decide +kernel
theorem dX9_best_68 : decode cX9_best 68 = .ok (.ireturn, 1) := by decide +kernel
theorem dX9_through_0 : decode cX9_through 0 = .ok (.iload_n 1, 1) := by decide +kernel
theorem dX9_through_1 : decode cX9_through 1 = .ok (.invokestatic 37, 3) := by decide +kernel
theorem dX9_through_4 : decode cX9_through 4 = .ok (.iload_n 2, 1) := by decide +kernel
theorem dX9_through_5 : decode cX9_through 5 = .ok (.invokestatic 37, 3) := by decide +kernel
theorem dX9_through_8 : decode cX9_through 8 = .ok (.isub, 1) := by decide +kernel
theorem dX9_through_9 : decode cX9_through 9 = .ok (.aload_n 0, 1) := by decide +kernel
theorem dX9_through_10 : decode cX9_through 10 = .ok (.getfield 15, 3) := by decide +kernel
theorem dX9_through_13 : decode cX9_through 13 = .ok (.irem, 1) := by decide +kernel
theorem dX9_through_14 : decode cX9_through 14 = .ok (.istore 5, 2) := by decide +kernel
theorem dX9_through_16 : decode cX9_through 16 = .ok (.iload 5, 2) := by decide +kernel
theorem dX9_through_18 : decode cX9_through 18 = .ok (.ifCond .ne 7, 3) := by decide +kernel
theorem dX9_through_21 : decode cX9_through 21 = .ok (.iconst 0, 1) := by decide +kernel
theorem dX9_through_22 : decode cX9_through 22 = .ok (.goto 9, 3) := by decide +kernel
theorem dX9_through_25 : decode cX9_through 25 = .ok (.aload_n 0, 1) := by decide +kernel
theorem dX9_through_26 : decode cX9_through 26 = .ok (.getfield 9, 3) := by decide +kernel
theorem dX9_through_29 : decode cX9_through 29 = .ok (.iload_n 3, 1) := by decide +kernel
theorem dX9_through_30 : decode cX9_through 30 = .ok (.iaload, 1) := by decide +kernel
theorem dX9_through_31 : decode cX9_through 31 = .ok (.istore 6, 2) := by decide +kernel
theorem dX9_through_33 : decode cX9_through 33 = .ok (.iload_n 2, 1) := by decide +kernel
theorem dX9_through_34 : decode cX9_through 34 = .ok (.iconst 1, 1) := by decide +kernel
theorem dX9_through_35 : decode cX9_through 35 = .ok (.iload 4, 2) := by decide +kernel
theorem dX9_through_37 : decode cX9_through 37 = .ok (.ishl, 1) := by decide +kernel
theorem dX9_through_38 : decode cX9_through 38 = .ok (.iconst (-1), 1) := by decide +kernel
theorem dX9_through_39 : decode cX9_through 39 = .ok (.ixor, 1) := by decide +kernel
theorem dX9_through_40 : decode cX9_through 40 = .ok (.iand, 1) := by decide +kernel
theorem dX9_through_41 : decode cX9_through 41 = .ok (.istore 7, 2) := by decide +kernel
theorem dX9_through_43 : decode cX9_through 43 = .ok (.iload 6, 2) := by decide +kernel
theorem dX9_through_45 : decode cX9_through 45 = .ok (.aload_n 0, 1) := by decide +kernel
theorem dX9_through_46 : decode cX9_through 46 = .ok (.getfield 9, 3) := by decide +kernel
theorem dX9_through_49 : decode cX9_through 49 = .ok (.iload 4, 2) := by decide +kernel
theorem dX9_through_51 : decode cX9_through 51 = .ok (.iaload, 1) := by decide +kernel
theorem dX9_through_52 : decode cX9_through 52 = .ok (.invokestatic 42, 3) := by decide +kernel
theorem dX9_through_55 : decode cX9_through 55 = .ok (.aload_n 0, 1) := by decide +kernel
theorem dX9_through_56 : decode cX9_through 56 = .ok (.getfield 19, 3) := by decide +kernel
theorem dX9_through_59 : decode cX9_through 59 = .ok (.iload 5, 2) := by decide +kernel
theorem dX9_through_61 : decode cX9_through 61 = .ok (.iadd, 1) := by decide +kernel
theorem dX9_through_62 : decode cX9_through 62 = .ok (.imul, 1) := by decide +kernel
theorem dX9_through_63 : decode cX9_through 63 = .ok (.istore 8, 2) := by decide +kernel
theorem dX9_through_65 : decode cX9_through 65 = .ok (.iload 7, 2) := by decide +kernel
theorem dX9_through_67 : decode cX9_through 67 = .ok (.ifCond .eq 14, 3) := by decide +kernel
theorem dX9_through_70 : decode cX9_through 70 = .ok (.iload 5, 2) := by decide +kernel
theorem dX9_through_72 : decode cX9_through 72 = .ok (.iconst 1, 1) := by decide +kernel
theorem dX9_through_73 : decode cX9_through 73 = .ok (.iadd, 1) := by decide +kernel
theorem dX9_through_74 : decode cX9_through 74 = .ok (.aload_n 0, 1) := by decide +kernel
theorem dX9_through_75 : decode cX9_through 75 = .ok (.getfield 15, 3) := by decide +kernel
theorem dX9_through_78 : decode cX9_through 78 = .ok (.if_icmp .ne 29, 3) := by decide +kernel
theorem dX9_through_81 : decode cX9_through 81 = .ok (.iload 8, 2) := by decide +kernel
theorem dX9_through_83 : decode cX9_through 83 = .ok (.aload_n 0, 1) := by decide +kernel
theorem dX9_through_84 : decode cX9_through 84 = .ok (.getfield 9, 3) := by decide +kernel
theorem dX9_through_87 : decode cX9_through 87 = .ok (.iload 4, 2) := by decide +kernel
theorem dX9_through_89 : decode cX9_through 89 = .ok (.iaload, 1) := by decide +kernel
theorem dX9_through_90 : decode cX9_through 90 = .ok (.iconst 0, 1) := by decide +kernel
theorem dX9_through_91 : decode cX9_through 91 = .ok (.invokestatic 42, 3) := by decide +kernel
theorem dX9_through_94 : decode cX9_through 94 = .ok (.aload_n 0, 1) := by decide +kernel
theorem dX9_through_95 : decode cX9_through 95 = .ok (.getfield 19, 3) := by decide +kernel
theorem dX9_through_98 : decode cX9_through 98 = .ok (.iload 5, 2) := by decide +kernel
theorem dX9_through_100 : decode cX9_through 100 = .ok (.iadd, 1) := by decide +kernel
theorem dX9_through_101 : decode cX9_through 101 = .ok (.iconst 1, 1) := by decide +kernel
theorem dX9_through_102 : decode cX9_through 102 = .ok (.iadd, 1) := by decide +kernel
theorem dX9_through_103 : decode cX9_through 103 = .ok (.imul, 1) := by decide +kernel
theorem dX9_through_104 : decode cX9_through 104 = .ok (.iadd, 1) := by decide +kernel
theorem dX9_through_105 : decode cX9_through 105 = .ok (.istore 8, 2) := by decide +kernel
theorem dX9_through_107 : decode cX9_through 107 = .ok (.iload 8, 2) := by decide +kernel
theorem dX9_through_109 : decode cX9_through 109 = .ok (.aload_n 0, 1) := by decide +kernel
theorem dX9_through_110 : decode cX9_through 110 = .ok (.getfield 22, 3) := by decide +kernel
theorem dX9_through_113 : decode cX9_through 113 = .ok (.iload 7, 2) := by decide +kernel
theorem dX9_through_115 : decode cX9_through 115 = .ok (.bipush 7, 2) := by decide +kernel
theorem dX9_through_117 : decode cX9_through 117 = .ok (.imul, 1) := by decide +kernel
theorem dX9_through_118 : decode cX9_through 118 = .ok (.iload 4, 2) := by decide +kernel
theorem dX9_through_120 : decode cX9_through 120 = .ok (.iadd, 1) := by decide +kernel
theorem dX9_through_121 : decode cX9_through 121 = .ok (.iaload, 1) := by decide +kernel
theorem dX9_through_122 : decode cX9_through 122 = .ok (.iadd, 1) := by decide +kernel
theorem dX9_through_123 : decode cX9_through 123 = .ok (.ireturn, 1) := by decide +kernel
theorem dX10_init_0 : decode cX10_init 0 = .ok (.aload_n 0, 1) := by decide +kernel
theorem dX10_init_1 : decode cX10_init 1 = .ok (.invokespecial 1, 3) := by decide +kernel
theorem dX10_init_4 : decode cX10_init 4 = .ok (.aload_n 0, 1) := by decide +kernel
theorem dX10_init_5 : decode cX10_init 5 = .ok (.bipush 7, 2) := by decide +kernel
theorem dX10_init_7 : decode cX10_init 7 = .ok (.anewarray 9, 3) := by decide +kernel
theorem dX10_init_10 : decode cX10_init 10 = .ok (.putfield 11, 3) := by decide +kernel
theorem dX10_init_13 : decode cX10_init 13 = .ok (.aload_n 0, 1) := by decide +kernel
theorem dX10_init_14 : decode cX10_init 14 = .ok (.bipush 12, 2) := by decide +kernel
theorem dX10_init_16 : decode cX10_init 16 = .ok (.newarray .int, 2) := by decide +kernel
theorem dX10_init_18 : decode cX10_init 18 = .ok (.putfield 15, 3) := by decide +kernel
theorem dX10_init_21 : decode cX10_init 21 = .ok (.aload_n 0, 1) := by decide +kernel
theorem dX10_init_22 : decode cX10_init 22 = .ok (.bipush 12, 2) := by decide +kernel
theorem dX10_init_24 : decode cX10_init 24 = .ok (.newarray .int, 2) := by decide +kernel
theorem dX10_init_26 : decode cX10_init 26 = .ok (.putfield 19, 3) := by decide +kernel
theorem dX10_init_29 : decode cX10_init 29 = .ok (.aload_n 0, 1) := by decide +kernel
theorem dX10_init_30 : decode cX10_init 30 = .ok (.iconst (-1), 1) := by decide +kernel
theorem dX10_init_31 : decode cX10_init 31 = .ok (.putfield 22, 3) := by decide +kernel
theorem dX10_init_34 : decode cX10_init 34 = .ok (.aload_n 0, 1) := by decide +kernel
theorem dX10_init_35 : decode cX10_init 35 = .ok (.new 26, 3) := by decide +kernel
theorem dX10_init_38 : decode cX10_init 38 = .ok (.dup, 1) := by decide +kernel
theorem dX10_init_39 : decode cX10_init 39 = .ok (.invokespecial 28, 3) := by decide +kernel
theorem dX10_init_42 : decode cX10_init 42 = .ok (.putfield 29, 3) := by decide +kernel
theorem dX10_init_45 : decode cX10_init 45 = .ok (.aload_n 0, 1) := by decide +kernel
theorem dX10_init_46 : decode cX10_init 46 = .ok (.bipush 6, 2) := by decide +kernel
theorem dX10_init_48 : decode cX10_init 48 = .ok (.anewarray 33, 3) := by decide +kernel
theorem dX10_init_51 : decode cX10_init 51 = .ok (.putfield 35, 3) := by decide +kernel
theorem dX10_init_54 : decode cX10_init 54 = .ok (.aload_n 0, 1) := by decide +kernel
theorem dX10_init_55 : decode cX10_init 55 = .ok (.bipush 6, 2) := by decide +kernel
theorem dX10_init_57 : decode cX10_init 57 = .ok (.newarray .int, 2) := by decide +kernel
theorem dX10_init_59 : decode cX10_init 59 = .ok (.putfield 39, 3) := by decide +kernel
theorem dX10_init_62 : decode cX10_init 62 = .ok (.aload_n 0, 1) := by decide +kernel
theorem dX10_init_63 : decode cX10_init 63 = .ok (.new 42, 3) := by decide +kernel
theorem dX10_init_66 : decode cX10_init 66 = .ok (.dup, 1) := by decide +kernel
theorem dX10_init_67 : decode cX10_init 67 = .ok (.invokespecial 44, 3) := by decide +kernel
theorem dX10_init_70 : decode cX10_init 70 = .ok (.putfield 45, 3) := by decide +kernel
theorem dX10_init_73 : decode cX10_init 73 = .ok (.aload_n 0, 1) := by decide +kernel
theorem dX10_init_74 : decode cX10_init 74 = .ok (.bipush 7, 2) := by decide +kernel
theorem dX10_init_76 : decode cX10_init 76 = .ok (.newarray .int, 2) := by decide +kernel
theorem dX10_init_78 : decode cX10_init 78 = .ok (.putfield 49, 3) := by decide +kernel
theorem dX10_init_81 : decode cX10_init 81 = .ok (.aload_n 0, 1) := by decide +kernel
theorem dX10_init_82 : decode cX10_init 82 = .ok (.iconst 4, 1) := by decide +kernel
theorem dX10_init_83 : decode cX10_init 83 = .ok (.anewarray 52, 3) := by decide +kernel
theorem dX10_init_86 : decode cX10_init 86 = .ok (.putfield 54, 3) := by decide +kernel
theorem dX10_init_89 : decode cX10_init 89 = .ok (.aload_n 0, 1) := by decide +kernel
theorem dX10_init_90 : decode cX10_init 90 = .ok (.getfield 15, 3) := by decide +kernel
theorem dX10_init_93 : decode cX10_init 93 = .ok (.iconst 4, 1) := by decide +kernel
theorem dX10_init_94 : decode cX10_init 94 = .ok (.bipush 27, 2) := by decide +kernel
theorem dX10_init_96 : decode cX10_init 96 = .ok (.iastore, 1) := by decide +kernel
theorem dX10_init_97 : decode cX10_init 97 = .ok (.aload_n 0, 1) := by decide +kernel
theorem dX10_init_98 : decode cX10_init 98 = .ok (.getfield 15, 3) := by decide +kernel
theorem dX10_init_101 : decode cX10_init 101 = .ok (.bipush 6, 2) := by decide +kernel
theorem dX10_init_103 : decode cX10_init 103 = .ok (.iconst 2, 1) := by decide +kernel
theorem dX10_init_104 : decode cX10_init 104 = .ok (.iastore, 1) := by decide +kernel
theorem dX10_init_105 : decode cX10_init 105 = .ok (.aload_n 0, 1) := by decide +kernel
theorem dX10_init_106 : decode cX10_init 106 = .ok (.getfield 15, 3) := by decide +kernel
theorem dX10_init_109 : decode cX10_init 109 = .ok (.bipush 7, 2) := by decide +kernel
theorem dX10_init_111 : decode cX10_init 111 = .ok (.iconst 1, 1) := by decide +kernel
theorem dX10_init_112 : decode cX10_init 112 = .ok (.iastore, 1) := by decide +kernel
theorem dX10_init_113 : decode cX10_init 113 = .ok (.iconst 0, 1) := by decide +kernel
theorem dX10_init_114 : decode cX10_init 114 = .ok (.istore_n 1, 1) := by decide +kernel
theorem dX10_init_115 : decode cX10_init 115 = .ok (.iload_n 1, 1) := by decide +kernel
theorem dX10_init_116 : decode cX10_init 116 = .ok (.iconst 4, 1) := by decide +kernel
theorem dX10_init_117 : decode cX10_init 117 = .ok (.if_icmp .ge 22, 3) := by decide +kernel
theorem dX10_init_120 : decode cX10_init 120 = .ok (.aload_n 0, 1) := by decide +kernel
theorem dX10_init_121 : decode cX10_init 121 = .ok (.getfield 54, 3) := by decide +kernel
theorem dX10_init_124 : decode cX10_init 124 = .ok (.iload_n 1, 1) := by decide +kernel
theorem dX10_init_125 : decode cX10_init 125 = .ok (.new 52, 3) := by decide +kernel
theorem dX10_init_128 : decode cX10_init 128 = .ok (.dup, 1) := by decide +kernel
theorem dX10_init_129 : decode cX10_init 129 = .ok (.invokespecial 58, 3) := by decide +kernel
theorem dX10_init_132 : decode cX10_init 132 = .ok (.aastore, 1) := by decide +kernel
theorem dX10_init_133 : decode cX10_init 133 = .ok (.iinc 1 1, 3) := by decide +kernel
theorem dX10_init_136 : decode cX10_init 136 = .ok (.goto (-21), 3) := by decide +kernel
theorem dX10_init_139 : decode cX10_init 139 = .ok (.iconst 0, 1) := by decide +kernel
theorem dX10_init_140 : decode cX10_init 140 = .ok (.istore_n 1, 1) := by decide +kernel
theorem dX10_init_141 : decode cX10_init 141 = .ok (.iload_n 1, 1) := by decide +kernel
theorem dX10_init_142 : decode cX10_init 142 = .ok (.ldc 59, 2) := by decide +kernel
theorem dX10_init_144 : decode cX10_init 144 = .ok (.invokevirtual 61, 3) := by decide +kernel
theorem dX10_init_147 : decode cX10_init 147 = .ok (.if_icmp .ge 23, 3) := by decide +kernel
theorem dX10_init_150 : decode cX10_init 150 = .ok (.aload_n 0, 1) := by decide +kernel
theorem dX10_init_151 : decode cX10_init 151 = .ok (.getfield 29, 3) := by decide +kernel
theorem dX10_init_154 : decode cX10_init 154 = .ok (.ldc 59, 2) := by decide +kernel
theorem dX10_init_156 : decode cX10_init 156 = .ok (.iload_n 1, 1) := by decide +kernel
theorem dX10_init_157 : decode cX10_init 157 = .ok (.invokevirtual 67, 3) := by decide +kernel
theorem dX10_init_160 : decode cX10_init 160 = .ok (.invokevirtual 71, 3) := by decide +kernel
theorem dX10_init_163 : decode cX10_init 163 = .ok (.pop, 1) := by decide +kernel
theorem dX10_init_164 : decode cX10_init 164 = .ok (.iinc 1 1, 3) := by decide +kernel
theorem dX10_init_167 : decode cX10_init 167 = .ok (.goto (-26), 3) := by decide +kernel
theorem dX10_init_170 : decode cX10_init 170 = .ok (.aload_n 0, 1) := by decide +kernel
theorem dX10_init_171 : decode cX10_init 171 = .ok (.getfield 29, 3) := by decide +kernel
theorem dX10_init_174 : decode cX10_init 174 = .ok (.invokevirtual 75, 3) := by decide +kernel
theorem dX10_init_177 : decode cX10_init 177 = .ok (.pop, 1) := by decide +kernel
theorem dX10_init_178 : decode cX10_init 178 = .ok (.aload_n 0, 1) := by decide +kernel
theorem dX10_init_179 : decode cX10_init 179 = .ok (.getfield 35, 3) := by decide +kernel
theorem dX10_init_182 : decode cX10_init 182 = .ok (.iconst 0, 1) := by decide +kernel
theorem dX10_init_183 : decode cX10_init 183 = .ok (.aload_n 0, 1) := by decide +kernel
theorem dX10_init_184 : decode cX10_init 184 = .ok (.getfield 29, 3) := by decide +kernel
theorem dX10_init_187 : decode cX10_init 187 = .ok (.invokevirtual 78, 3) := by decide +kernel
theorem dX10_init_190 : decode cX10_init 190 = .ok (.aastore, 1) := by decide +kernel
theorem dX10_init_191 : decode cX10_init 191 = .ok (.aload_n 0, 1) := by decide +kernel
theorem dX10_init_192 : decode cX10_init 192 = .ok (.iconst 1, 1) := by decide +kernel
theorem dX10_init_193 : decode cX10_init 193 = .ok (.putfield 82, 3) := by decide +kernel
theorem dX10_init_196 : decode cX10_init 196 = .ok (.aload_n 0, 1) := by decide +kernel
theorem dX10_init_197 : decode cX10_init 197 = .ok (.getfield 29, 3) := by decide +kernel
theorem dX10_init_200 : decode cX10_init 200 = .ok (.invokevirtual 85, 3) := by decide +kernel
theorem dX10_init_203 : decode cX10_init 203 = .ok (.return_, 1) := by decide +kernel
theorem dX10_boat_0 : decode cX10_boat 0 = .ok (.iload_n 1, 1) := by decide +kernel
theorem dX10_boat_1 : decode cX10_boat 1 = .ok (.ifCond .lt 16, 3) := by decide +kernel
theorem dX10_boat_4 : decode cX10_boat 4 = .ok (.iload_n 1, 1) := by decide +kernel
theorem dX10_boat_5 : decode cX10_boat 5 = .ok (.iconst 5, 1) := by decide +kernel
theorem dX10_boat_6 : decode cX10_boat 6 = .ok (.if_icmp .gt 11, 3) := by decide +kernel
theorem dX10_boat_9 : decode cX10_boat 9 = .ok (.iload_n 2, 1) := by decide +kernel
theorem dX10_boat_10 : decode cX10_boat 10 = .ok (.ifCond .lt 7, 3) := by decide +kernel
theorem dX10_boat_13 : decode cX10_boat 13 = .ok (.iload_n 3, 1) := by decide +kernel
theorem dX10_boat_14 : decode cX10_boat 14 = .ok (.ifCond .ge 6, 3) := by decide +kernel
theorem dX10_boat_17 : decode cX10_boat 17 = .ok (.bipush (-2), 2) := by decide +kernel
theorem dX10_boat_19 : decode cX10_boat 19 = .ok (.ireturn, 1) := by decide +kernel
theorem dX10_boat_20 : decode cX10_boat 20 = .ok (.iconst 0, 1) := by decide +kernel
theorem dX10_boat_21 : decode cX10_boat 21 = .ok (.iload_n 2, 1) := by decide +kernel
theorem dX10_boat_22 : decode cX10_boat 22 = .ok (.bipush 100, 2) := by decide +kernel
theorem dX10_boat_24 : decode cX10_boat 24 = .ok (.idiv, 1) := by decide +kernel
theorem dX10_boat_25 : decode cX10_boat 25 = .ok (.invokestatic 88, 3) := by decide +kernel
theorem dX10_boat_28 : decode cX10_boat 28 = .ok (.ifCond .eq 26, 3) := by decide +kernel
theorem dX10_boat_31 : decode cX10_boat 31 = .ok (.iconst 3, 1) := by decide +kernel
theorem dX10_boat_32 : decode cX10_boat 32 = .ok (.iload_n 2, 1) := by decide +kernel
theorem dX10_boat_33 : decode cX10_boat 33 = .ok (.bipush 100, 2) := by decide +kernel
theorem dX10_boat_35 : decode cX10_boat 35 = .ok (.irem, 1) := by decide +kernel
theorem dX10_boat_36 : decode cX10_boat 36 = .ok (.invokestatic 88, 3) := by decide +kernel
theorem dX10_boat_39 : decode cX10_boat 39 = .ok (.ifCond .eq 15, 3) := by decide +kernel
theorem dX10_boat_42 : decode cX10_boat 42 = .ok (.iconst 2, 1) := by decide +kernel
theorem dX10_boat_43 : decode cX10_boat 43 = .ok (.iload_n 3, 1) := by decide +kernel
theorem dX10_boat_44 : decode cX10_boat 44 = .ok (.sipush 1000, 3) := by decide +kernel
theorem dX10_boat_47 : decode cX10_boat 47 = .ok (.idiv, 1) := by decide +kernel
theorem dX10_boat_48 : decode cX10_boat 48 = .ok (.invokestatic 88, 3) := by decide +kernel
theorem dX10_boat_51 : decode cX10_boat 51 = .ok (.ifCond .ne 6, 3) := by decide +kernel
theorem dX10_boat_54 : decode cX10_boat 54 = .ok (.bipush (-2), 2) := by decide +kernel
theorem dX10_boat_56 : decode cX10_boat 56 = .ok (.ireturn, 1) := by decide +kernel
theorem dX10_boat_57 : decode cX10_boat 57 = .ok (.aload_n 0, 1) := by decide +kernel
theorem dX10_boat_58 : decode cX10_boat 58 = .ok (.getfield 92, 3) := by decide +kernel
theorem dX10_boat_61 : decode cX10_boat 61 = .ok (.bipush 7, 2) := by decide +kernel
theorem dX10_boat_63 : decode cX10_boat 63 = .ok (.if_icmp .lt 6, 3) := by decide +kernel
theorem dX10_boat_66 : decode cX10_boat 66 = .ok (.bipush (-4), 2) := by decide +kernel
theorem dX10_boat_68 : decode cX10_boat 68 = .ok (.ireturn, 1) := by decide +kernel
theorem dX10_boat_69 : decode cX10_boat 69 = .ok (.aload_n 0, 1) := by decide +kernel
theorem dX10_boat_70 : decode cX10_boat 70 = .ok (.getfield 11, 3) := by decide +kernel
theorem dX10_boat_73 : decode cX10_boat 73 = .ok (.aload_n 0, 1) := by decide +kernel
theorem dX10_boat_74 : decode cX10_boat 74 = .ok (.getfield 92, 3) := by decide +kernel
theorem dX10_boat_77 : decode cX10_boat 77 = .ok (.iload_n 1, 1) := by decide +kernel
theorem dX10_boat_78 : decode cX10_boat 78 = .ok (.iload_n 2, 1) := by decide +kernel
theorem dX10_boat_79 : decode cX10_boat 79 = .ok (.iload_n 3, 1) := by decide +kernel
theorem dX10_boat_80 : decode cX10_boat 80 = .ok (.invokestatic 95, 3) := by decide +kernel
theorem dX10_boat_83 : decode cX10_boat 83 = .ok (.aastore, 1) := by decide +kernel
theorem dX10_boat_84 : decode cX10_boat 84 = .ok (.aload_n 0, 1) := by decide +kernel
theorem dX10_boat_85 : decode cX10_boat 85 = .ok (.dup, 1) := by decide +kernel
theorem dX10_boat_86 : decode cX10_boat 86 = .ok (.getfield 92, 3) := by decide +kernel
theorem dX10_boat_89 : decode cX10_boat 89 = .ok (.iconst 1, 1) := by decide +kernel
theorem dX10_boat_90 : decode cX10_boat 90 = .ok (.iadd, 1) := by decide +kernel
theorem dX10_boat_91 : decode cX10_boat 91 = .ok (.putfield 92, 3) := by decide +kernel
theorem dX10_boat_94 : decode cX10_boat 94 = .ok (.aload_n 0, 1) := by decide +kernel
theorem dX10_boat_95 : decode cX10_boat 95 = .ok (.getfield 92, 3) := by decide +kernel
theorem dX10_boat_98 : decode cX10_boat 98 = .ok (.iconst 1, 1) := by decide +kernel
theorem dX10_boat_99 : decode cX10_boat 99 = .ok (.isub, 1) := by decide +kernel
theorem dX10_boat_100 : decode cX10_boat 100 = .ok (.ireturn, 1) := by decide +kernel
theorem dX10_set_0 : decode cX10_set 0 = .ok (.iload_n 1, 1) := by decide +kernel
theorem dX10_set_1 : decode cX10_set 1 = .ok (.ifCond .lt 17, 3) := by decide +kernel
theorem dX10_set_4 : decode cX10_set 4 = .ok (.iload_n 1, 1) := by decide +kernel
theorem dX10_set_5 : decode cX10_set 5 = .ok (.bipush 8, 2) := by decide +kernel
theorem dX10_set_7 : decode cX10_set 7 = .ok (.if_icmp .gt 11, 3) := by decide +kernel
theorem dX10_set_10 : decode cX10_set 10 = .ok (.iload_n 1, 1) := by decide +kernel
theorem dX10_set_11 : decode cX10_set 11 = .ok (.iload_n 3, 1) := by decide +kernel
theorem dX10_set_12 : decode cX10_set 12 = .ok (.invokestatic 88, 3) := by decide +kernel
theorem dX10_set_15 : decode cX10_set 15 = .ok (.ifCond .ne 6, 3) := by decide +kernel
theorem dX10_set_18 : decode cX10_set 18 = .ok (.bipush (-2), 2) := by decide +kernel
theorem dX10_set_20 : decode cX10_set 20 = .ok (.ireturn, 1) := by decide +kernel
theorem dX10_set_21 : decode cX10_set 21 = .ok (.iload_n 1, 1) := by decide +kernel
theorem dX10_set_22 : decode cX10_set 22 = .ok (.iconst 3, 1) := by decide +kernel
theorem dX10_set_23 : decode cX10_set 23 = .ok (.if_icmp .gt 14, 3) := by decide +kernel
theorem dX10_set_26 : decode cX10_set 26 = .ok (.aload_n 0, 1) := by decide +kernel
theorem dX10_set_27 : decode cX10_set 27 = .ok (.iload_n 2, 1) := by decide +kernel
theorem dX10_set_28 : decode cX10_set 28 = .ok (.invokevirtual 99, 3) := by decide +kernel
theorem dX10_set_31 : decode cX10_set 31 = .ok (.ifCond .ne 6, 3) := by decide +kernel
theorem dX10_set_34 : decode cX10_set 34 = .ok (.bipush (-2), 2) := by decide +kernel
theorem dX10_set_36 : decode cX10_set 36 = .ok (.ireturn, 1) := by decide +kernel
theorem dX10_set_37 : decode cX10_set 37 = .ok (.iload_n 1, 1) := by decide +kernel
theorem dX10_set_38 : decode cX10_set 38 = .ok (.iconst 3, 1) := by decide +kernel
theorem dX10_set_39 : decode cX10_set 39 = .ok (.if_icmp .gt 15, 3) := by decide +kernel
theorem dX10_set_42 : decode cX10_set 42 = .ok (.aload_n 0, 1) := by decide +kernel
theorem dX10_set_43 : decode cX10_set 43 = .ok (.getfield 11, 3) := by decide +kernel
theorem dX10_set_46 : decode cX10_set 46 = .ok (.iload_n 2, 1) := by decide +kernel
theorem dX10_set_47 : decode cX10_set 47 = .ok (.aaload, 1) := by decide +kernel
theorem dX10_set_48 : decode cX10_set 48 = .ok (.getfield 102, 3) := by decide +kernel
theorem dX10_set_51 : decode cX10_set 51 = .ok (.goto 7, 3) := by decide +kernel
theorem dX10_set_54 : decode cX10_set 54 = .ok (.aload_n 0, 1) := by decide +kernel
theorem dX10_set_55 : decode cX10_set 55 = .ok (.getfield 15, 3) := by decide +kernel
theorem dX10_set_58 : decode cX10_set 58 = .ok (.astore 4, 2) := by decide +kernel
theorem dX10_set_60 : decode cX10_set 60 = .ok (.aload 4, 2) := by decide +kernel
theorem dX10_set_62 : decode cX10_set 62 = .ok (.iload_n 1, 1) := by decide +kernel
theorem dX10_set_63 : decode cX10_set 63 = .ok (.iaload, 1) := by decide +kernel
theorem dX10_set_64 : decode cX10_set 64 = .ok (.istore 5, 2) := by decide +kernel
theorem dX10_set_66 : decode cX10_set 66 = .ok (.aload 4, 2) := by decide +kernel
theorem dX10_set_68 : decode cX10_set 68 = .ok (.iload_n 1, 1) := by decide +kernel
theorem dX10_set_69 : decode cX10_set 69 = .ok (.iload_n 3, 1) := by decide +kernel
theorem dX10_set_70 : decode cX10_set 70 = .ok (.iastore, 1) := by decide +kernel
theorem dX10_set_71 : decode cX10_set 71 = .ok (.iload 5, 2) := by decide +kernel
theorem dX10_set_73 : decode cX10_set 73 = .ok (.ireturn, 1) := by decide +kernel
theorem dX10_told_0 : decode cX10_told 0 = .ok (.aload_n 0, 1) := by decide +kernel
theorem dX10_told_1 : decode cX10_told 1 = .ok (.iload_n 1, 1) := by decide +kernel
theorem dX10_told_2 : decode cX10_told 2 = .ok (.invokevirtual 99, 3) := by decide +kernel
theorem dX10_told_5 : decode cX10_told 5 = .ok (.ifCond .ne 6, 3) := by decide +kernel
theorem dX10_told_8 : decode cX10_told 8 = .ok (.bipush (-2), 2) := by decide +kernel
theorem dX10_told_10 : decode cX10_told 10 = .ok (.ireturn, 1) := by decide +kernel
theorem dX10_told_11 : decode cX10_told 11 = .ok (.aload_n 0, 1) := by decide +kernel
theorem dX10_told_12 : decode cX10_told 12 = .ok (.getfield 11, 3) := by decide +kernel
theorem dX10_told_15 : decode cX10_told 15 = .ok (.iload_n 1, 1) := by decide +kernel
theorem dX10_told_16 : decode cX10_told 16 = .ok (.aaload, 1) := by decide +kernel
theorem dX10_told_17 : decode cX10_told 17 = .ok (.astore_n 3, 1) := by decide +kernel
theorem dX10_told_18 : decode cX10_told 18 = .ok (.iload_n 2, 1) := by decide +kernel
theorem dX10_told_19 : decode cX10_told 19 = .ok (.tableswitch 153 0 10 #[57, 64, 71, 78, 85, 90, 97, 104, 115, 126, 140], 57) := by decide +kernel
theorem dX10_told_76 : decode cX10_told 76 = .ok (.aload_n 3, 1) := by decide +kernel
theorem dX10_told_77 : decode cX10_told 77 = .ok (.getfield 102, 3) := by decide +kernel
theorem dX10_told_80 : decode cX10_told 80 = .ok (.iconst 0, 1) := by decide +kernel
theorem dX10_told_81 : decode cX10_told 81 = .ok (.iaload, 1) := by decide +kernel
theorem dX10_told_82 : decode cX10_told 82 = .ok (.ireturn, 1) := by decide +kernel
theorem dX10_told_83 : decode cX10_told 83 = .ok (.aload_n 3, 1) := by decide +kernel
theorem dX10_told_84 : decode cX10_told 84 = .ok (.getfield 102, 3) := by decide +kernel
theorem dX10_told_87 : decode cX10_told 87 = .ok (.iconst 1, 1) := by decide +kernel
theorem dX10_told_88 : decode cX10_told 88 = .ok (.iaload, 1) := by decide +kernel
theorem dX10_told_89 : decode cX10_told 89 = .ok (.ireturn, 1) := by decide +kernel
theorem dX10_told_90 : decode cX10_told 90 = .ok (.aload_n 3, 1) := by decide +kernel
theorem dX10_told_91 : decode cX10_told 91 = .ok (.getfield 102, 3) := by decide +kernel
theorem dX10_told_94 : decode cX10_told 94 = .ok (.iconst 2, 1) := by decide +kernel
theorem dX10_told_95 : decode cX10_told 95 = .ok (.iaload, 1) := by decide +kernel
theorem dX10_told_96 : decode cX10_told 96 = .ok (.ireturn, 1) := by decide +kernel
theorem dX10_told_97 : decode cX10_told 97 = .ok (.aload_n 3, 1) := by decide +kernel
theorem dX10_told_98 : decode cX10_told 98 = .ok (.getfield 102, 3) := by decide +kernel
theorem dX10_told_101 : decode cX10_told 101 = .ok (.iconst 3, 1) := by decide +kernel
theorem dX10_told_102 : decode cX10_told 102 = .ok (.iaload, 1) := by decide +kernel
theorem dX10_told_103 : decode cX10_told 103 = .ok (.ireturn, 1) := by decide +kernel
theorem dX10_told_104 : decode cX10_told 104 = .ok (.aload_n 3, 1) := by decide +kernel
theorem dX10_told_105 : decode cX10_told 105 = .ok (.invokevirtual 105, 3) := by decide +kernel
theorem dX10_told_108 : decode cX10_told 108 = .ok (.ireturn, 1) := by decide +kernel
theorem dX10_told_109 : decode cX10_told 109 = .ok (.aload_n 3, 1) := by decide +kernel
theorem dX10_told_110 : decode cX10_told 110 = .ok (.getfield 102, 3) := by decide +kernel
theorem dX10_told_113 : decode cX10_told 113 = .ok (.iconst 4, 1) := by decide +kernel
theorem dX10_told_114 : decode cX10_told 114 = .ok (.iaload, 1) := by decide +kernel
theorem dX10_told_115 : decode cX10_told 115 = .ok (.ireturn, 1) := by decide +kernel
theorem dX10_told_116 : decode cX10_told 116 = .ok (.aload_n 3, 1) := by decide +kernel
theorem dX10_told_117 : decode cX10_told 117 = .ok (.getfield 102, 3) := by decide +kernel
theorem dX10_told_120 : decode cX10_told 120 = .ok (.iconst 5, 1) := by decide +kernel
theorem dX10_told_121 : decode cX10_told 121 = .ok (.iaload, 1) := by decide +kernel
theorem dX10_told_122 : decode cX10_told 122 = .ok (.ireturn, 1) := by decide +kernel
theorem dX10_told_123 : decode cX10_told 123 = .ok (.aload_n 3, 1) := by decide +kernel
theorem dX10_told_124 : decode cX10_told 124 = .ok (.aload_n 0, 1) := by decide +kernel
theorem dX10_told_125 : decode cX10_told 125 = .ok (.getfield 15, 3) := by decide +kernel
theorem dX10_told_128 : decode cX10_told 128 = .ok (.iconst 5, 1) := by decide +kernel
theorem dX10_told_129 : decode cX10_told 129 = .ok (.iaload, 1) := by decide +kernel
theorem dX10_told_130 : decode cX10_told 130 = .ok (.invokevirtual 108, 3) := by decide +kernel
theorem dX10_told_133 : decode cX10_told 133 = .ok (.ireturn, 1) := by decide +kernel
theorem dX10_told_134 : decode cX10_told 134 = .ok (.aload_n 3, 1) := by decide +kernel
theorem dX10_told_135 : decode cX10_told 135 = .ok (.aload_n 0, 1) := by decide +kernel
theorem dX10_told_136 : decode cX10_told 136 = .ok (.getfield 15, 3) := by decide +kernel
theorem dX10_told_139 : decode cX10_told 139 = .ok (.iconst 5, 1) := by decide +kernel
theorem dX10_told_140 : decode cX10_told 140 = .ok (.iaload, 1) := by decide +kernel
theorem dX10_told_141 : decode cX10_told 141 = .ok (.invokevirtual 112, 3) := by decide +kernel
theorem dX10_told_144 : decode cX10_told 144 = .ok (.ireturn, 1) := by decide +kernel
theorem dX10_told_145 : decode cX10_told 145 = .ok (.aload_n 0, 1) := by decide +kernel
theorem dX10_told_146 : decode cX10_told 146 = .ok (.iload_n 1, 1) := by decide +kernel
theorem dX10_told_147 : decode cX10_told 147 = .ok (.invokevirtual 115, 3) := by decide +kernel
theorem dX10_told_150 : decode cX10_told 150 = .ok (.ifCond .eq 7, 3) := by decide +kernel
theorem dX10_told_153 : decode cX10_told 153 = .ok (.iconst 1, 1) := by decide +kernel
theorem dX10_told_154 : decode cX10_told 154 = .ok (.goto 4, 3) := by decide +kernel
theorem dX10_told_157 : decode cX10_told 157 = .ok (.iconst 0, 1) := by decide +kernel
theorem dX10_told_158 : decode cX10_told 158 = .ok (.ireturn, 1) := by decide +kernel
theorem dX10_told_159 : decode cX10_told 159 = .ok (.aload_n 0, 1) := by decide +kernel
theorem dX10_told_160 : decode cX10_told 160 = .ok (.iload_n 1, 1) := by decide +kernel
theorem dX10_told_161 : decode cX10_told 161 = .ok (.aload_n 0, 1) := by decide +kernel
theorem dX10_told_162 : decode cX10_told 162 = .ok (.getfield 15, 3) := by decide +kernel
theorem dX10_told_165 : decode cX10_told 165 = .ok (.bipush 9, 2) := by decide +kernel
theorem dX10_told_167 : decode cX10_told 167 = .ok (.iaload, 1) := by decide +kernel
theorem dX10_told_168 : decode cX10_told 168 = .ok (.invokevirtual 118, 3) := by decide +kernel
theorem dX10_told_171 : decode cX10_told 171 = .ok (.ireturn, 1) := by decide +kernel
theorem dX10_told_172 : decode cX10_told 172 = .ok (.bipush (-2), 2) := by decide +kernel
theorem dX10_told_174 : decode cX10_told 174 = .ok (.ireturn, 1) := by decide +kernel
theorem dX10_fits_0 : decode cX10_fits 0 = .ok (.iload_n 1, 1) := by decide +kernel
theorem dX10_fits_1 : decode cX10_fits 1 = .ok (.getstatic 122, 3) := by decide +kernel
theorem dX10_fits_4 : decode cX10_fits 4 = .ok (.iload_n 0, 1) := by decide +kernel
theorem dX10_fits_5 : decode cX10_fits 5 = .ok (.iaload, 1) := by decide +kernel
theorem dX10_fits_6 : decode cX10_fits 6 = .ok (.if_icmp .lt 16, 3) := by decide +kernel
theorem dX10_fits_9 : decode cX10_fits 9 = .ok (.iload_n 1, 1) := by decide +kernel
theorem dX10_fits_10 : decode cX10_fits 10 = .ok (.getstatic 125, 3) := by decide +kernel
theorem dX10_fits_13 : decode cX10_fits 13 = .ok (.iload_n 0, 1) := by decide +kernel
theorem dX10_fits_14 : decode cX10_fits 14 = .ok (.iaload, 1) := by decide +kernel
theorem dX10_fits_15 : decode cX10_fits 15 = .ok (.if_icmp .gt 7, 3) := by decide +kernel
theorem dX10_fits_18 : decode cX10_fits 18 = .ok (.iconst 1, 1) := by decide +kernel
theorem dX10_fits_19 : decode cX10_fits 19 = .ok (.goto 4, 3) := by decide +kernel
theorem dX10_fits_22 : decode cX10_fits 22 = .ok (.iconst 0, 1) := by decide +kernel
theorem dX10_fits_23 : decode cX10_fits 23 = .ok (.ireturn, 1) := by decide +kernel
theorem dX10_isBoat_0 : decode cX10_isBoat 0 = .ok (.iload_n 1, 1) := by decide +kernel
theorem dX10_isBoat_1 : decode cX10_isBoat 1 = .ok (.ifCond .lt 15, 3) := by decide +kernel
theorem dX10_isBoat_4 : decode cX10_isBoat 4 = .ok (.iload_n 1, 1) := by decide +kernel
theorem dX10_isBoat_5 : decode cX10_isBoat 5 = .ok (.aload_n 0, 1) := by decide +kernel
theorem dX10_isBoat_6 : decode cX10_isBoat 6 = .ok (.getfield 92, 3) := by decide +kernel
theorem dX10_isBoat_9 : decode cX10_isBoat 9 = .ok (.if_icmp .ge 7, 3) := by decide +kernel
theorem dX10_isBoat_12 : decode cX10_isBoat 12 = .ok (.iconst 1, 1) := by decide +kernel
theorem dX10_isBoat_13 : decode cX10_isBoat 13 = .ok (.goto 4, 3) := by decide +kernel
theorem dX10_isBoat_16 : decode cX10_isBoat 16 = .ok (.iconst 0, 1) := by decide +kernel
theorem dX10_isBoat_17 : decode cX10_isBoat 17 = .ok (.ireturn, 1) := by decide +kernel
theorem dX10_newBoat_0 : decode cX10_newBoat 0 = .ok (.iload_n 0, 1) := by decide +kernel
theorem dX10_newBoat_1 : decode cX10_newBoat 1 = .ok (.tableswitch 85 1 5 #[35, 45, 55, 65, 75], 35) := by decide +kernel
theorem dX10_newBoat_36 : decode cX10_newBoat 36 = .ok (.new 128, 3) := by decide +kernel
theorem dX10_newBoat_39 : decode cX10_newBoat 39 = .ok (.dup, 1) := by decide +kernel
theorem dX10_newBoat_40 : decode cX10_newBoat 40 = .ok (.iload_n 1, 1) := by decide +kernel
theorem dX10_newBoat_41 : decode cX10_newBoat 41 = .ok (.iload_n 2, 1) := by decide +kernel
theorem dX10_newBoat_42 : decode cX10_newBoat 42 = .ok (.invokespecial 130, 3) := by decide +kernel
theorem dX10_newBoat_45 : decode cX10_newBoat 45 = .ok (.areturn, 1) := by decide +kernel
theorem dX10_newBoat_46 : decode cX10_newBoat 46 = .ok (.new 133, 3) := by decide +kernel
theorem dX10_newBoat_49 : decode cX10_newBoat 49 = .ok (.dup, 1) := by decide +kernel
theorem dX10_newBoat_50 : decode cX10_newBoat 50 = .ok (.iload_n 1, 1) := by decide +kernel
theorem dX10_newBoat_51 : decode cX10_newBoat 51 = .ok (.iload_n 2, 1) := by decide +kernel
theorem dX10_newBoat_52 : decode cX10_newBoat 52 = .ok (.invokespecial 135, 3) := by decide +kernel
theorem dX10_newBoat_55 : decode cX10_newBoat 55 = .ok (.areturn, 1) := by decide +kernel
theorem dX10_newBoat_56 : decode cX10_newBoat 56 = .ok (.new 136, 3) := by decide +kernel
theorem dX10_newBoat_59 : decode cX10_newBoat 59 = .ok (.dup, 1) := by decide +kernel
theorem dX10_newBoat_60 : decode cX10_newBoat 60 = .ok (.iload_n 1, 1) := by decide +kernel
theorem dX10_newBoat_61 : decode cX10_newBoat 61 = .ok (.iload_n 2, 1) := by decide +kernel
theorem dX10_newBoat_62 : decode cX10_newBoat 62 = .ok (.invokespecial 138, 3) := by decide +kernel
theorem dX10_newBoat_65 : decode cX10_newBoat 65 = .ok (.areturn, 1) := by decide +kernel
theorem dX10_newBoat_66 : decode cX10_newBoat 66 = .ok (.new 139, 3) := by decide +kernel
theorem dX10_newBoat_69 : decode cX10_newBoat 69 = .ok (.dup, 1) := by decide +kernel
theorem dX10_newBoat_70 : decode cX10_newBoat 70 = .ok (.iload_n 1, 1) := by decide +kernel
theorem dX10_newBoat_71 : decode cX10_newBoat 71 = .ok (.iload_n 2, 1) := by decide +kernel
theorem dX10_newBoat_72 : decode cX10_newBoat 72 = .ok (.invokespecial 141, 3) := by decide +kernel
theorem dX10_newBoat_75 : decode cX10_newBoat 75 = .ok (.areturn, 1) := by decide +kernel
theorem dX10_newBoat_76 : decode cX10_newBoat 76 = .ok (.new 142, 3) := by decide +kernel
theorem dX10_newBoat_79 : decode cX10_newBoat 79 = .ok (.dup, 1) := by decide +kernel
theorem dX10_newBoat_80 : decode cX10_newBoat 80 = .ok (.iload_n 1, 1) := by decide +kernel
theorem dX10_newBoat_81 : decode cX10_newBoat 81 = .ok (.iload_n 2, 1) := by decide +kernel
theorem dX10_newBoat_82 : decode cX10_newBoat 82 = .ok (.invokespecial 144, 3) := by decide +kernel
theorem dX10_newBoat_85 : decode cX10_newBoat 85 = .ok (.areturn, 1) := by decide +kernel
theorem dX10_newBoat_86 : decode cX10_newBoat 86 = .ok (.new 9, 3) := by decide +kernel
theorem dX10_newBoat_89 : decode cX10_newBoat 89 = .ok (.dup, 1) := by decide +kernel
theorem dX10_newBoat_90 : decode cX10_newBoat 90 = .ok (.iload_n 1, 1) := by decide +kernel
theorem dX10_newBoat_91 : decode cX10_newBoat 91 = .ok (.iload_n 2, 1) := by decide +kernel
theorem dX10_newBoat_92 : decode cX10_newBoat 92 = .ok (.invokespecial 145, 3) := by decide +kernel
theorem dX10_newBoat_95 : decode cX10_newBoat 95 = .ok (.areturn, 1) := by decide +kernel
theorem dX10_feed_0 : decode cX10_feed 0 = .ok (.iload_n 1, 1) := by decide +kernel
theorem dX10_feed_1 : decode cX10_feed 1 = .ok (.ifCond .lt 10, 3) := by decide +kernel
theorem dX10_feed_4 : decode cX10_feed 4 = .ok (.iload_n 1, 1) := by decide +kernel
theorem dX10_feed_5 : decode cX10_feed 5 = .ok (.sipush 255, 3) := by decide +kernel
theorem dX10_feed_8 : decode cX10_feed 8 = .ok (.if_icmp .le 6, 3) := by decide +kernel
theorem dX10_feed_11 : decode cX10_feed 11 = .ok (.bipush (-2), 2) := by decide +kernel
theorem dX10_feed_13 : decode cX10_feed 13 = .ok (.ireturn, 1) := by decide +kernel
theorem dX10_feed_14 : decode cX10_feed 14 = .ok (.aload_n 0, 1) := by decide +kernel
theorem dX10_feed_15 : decode cX10_feed 15 = .ok (.getfield 29, 3) := by decide +kernel
theorem dX10_feed_18 : decode cX10_feed 18 = .ok (.iload_n 1, 1) := by decide +kernel
theorem dX10_feed_19 : decode cX10_feed 19 = .ok (.invokevirtual 71, 3) := by decide +kernel
theorem dX10_feed_22 : decode cX10_feed 22 = .ok (.ifCond .eq 13, 3) := by decide +kernel
theorem dX10_feed_25 : decode cX10_feed 25 = .ok (.aload_n 0, 1) := by decide +kernel
theorem dX10_feed_26 : decode cX10_feed 26 = .ok (.getfield 29, 3) := by decide +kernel
theorem dX10_feed_29 : decode cX10_feed 29 = .ok (.getfield 146, 3) := by decide +kernel
theorem dX10_feed_32 : decode cX10_feed 32 = .ok (.goto 5, 3) := by decide +kernel
theorem dX10_feed_35 : decode cX10_feed 35 = .ok (.bipush (-4), 2) := by decide +kernel
theorem dX10_feed_37 : decode cX10_feed 37 = .ok (.ireturn, 1) := by decide +kernel
theorem dX10_text_0 : decode cX10_text 0 = .ok (.aload_n 0, 1) := by decide +kernel
theorem dX10_text_1 : decode cX10_text 1 = .ok (.getfield 82, 3) := by decide +kernel
theorem dX10_text_4 : decode cX10_text 4 = .ok (.bipush 6, 2) := by decide +kernel
theorem dX10_text_6 : decode cX10_text 6 = .ok (.if_icmp .lt 6, 3) := by decide +kernel
theorem dX10_text_9 : decode cX10_text 9 = .ok (.bipush (-4), 2) := by decide +kernel
theorem dX10_text_11 : decode cX10_text 11 = .ok (.ireturn, 1) := by decide +kernel
theorem dX10_text_12 : decode cX10_text 12 = .ok (.aload_n 0, 1) := by decide +kernel
theorem dX10_text_13 : decode cX10_text 13 = .ok (.getfield 29, 3) := by decide +kernel
theorem dX10_text_16 : decode cX10_text 16 = .ok (.invokevirtual 75, 3) := by decide +kernel
theorem dX10_text_19 : decode cX10_text 19 = .ok (.istore_n 1, 1) := by decide +kernel
theorem dX10_text_20 : decode cX10_text 20 = .ok (.iload_n 1, 1) := by decide +kernel
theorem dX10_text_21 : decode cX10_text 21 = .ok (.iconst (-1), 1) := by decide +kernel
theorem dX10_text_22 : decode cX10_text 22 = .ok (.if_icmp .ne 29, 3) := by decide +kernel
theorem dX10_text_25 : decode cX10_text 25 = .ok (.aload_n 0, 1) := by decide +kernel
theorem dX10_text_26 : decode cX10_text 26 = .ok (.getfield 35, 3) := by decide +kernel
theorem dX10_text_29 : decode cX10_text 29 = .ok (.aload_n 0, 1) := by decide +kernel
theorem dX10_text_30 : decode cX10_text 30 = .ok (.getfield 82, 3) := by decide +kernel
theorem dX10_text_33 : decode cX10_text 33 = .ok (.aload_n 0, 1) := by decide +kernel
theorem dX10_text_34 : decode cX10_text 34 = .ok (.getfield 29, 3) := by decide +kernel
theorem dX10_text_37 : decode cX10_text 37 = .ok (.invokevirtual 78, 3) := by decide +kernel
theorem dX10_text_40 : decode cX10_text 40 = .ok (.aastore, 1) := by decide +kernel
theorem dX10_text_41 : decode cX10_text 41 = .ok (.aload_n 0, 1) := by decide +kernel
theorem dX10_text_42 : decode cX10_text 42 = .ok (.dup, 1) := by decide +kernel
theorem dX10_text_43 : decode cX10_text 43 = .ok (.getfield 82, 3) := by decide +kernel
theorem dX10_text_46 : decode cX10_text 46 = .ok (.iconst 1, 1) := by decide +kernel
theorem dX10_text_47 : decode cX10_text 47 = .ok (.iadd, 1) := by decide +kernel
theorem dX10_text_48 : decode cX10_text 48 = .ok (.putfield 82, 3) := by decide +kernel
theorem dX10_text_51 : decode cX10_text 51 = .ok (.aload_n 0, 1) := by decide +kernel
theorem dX10_text_52 : decode cX10_text 52 = .ok (.getfield 29, 3) := by decide +kernel
theorem dX10_text_55 : decode cX10_text 55 = .ok (.invokevirtual 85, 3) := by decide +kernel
theorem dX10_text_58 : decode cX10_text 58 = .ok (.iload_n 1, 1) := by decide +kernel
theorem dX10_text_59 : decode cX10_text 59 = .ok (.iconst (-1), 1) := by decide +kernel
theorem dX10_text_60 : decode cX10_text 60 = .ok (.if_icmp .ne 12, 3) := by decide +kernel
theorem dX10_text_63 : decode cX10_text 63 = .ok (.aload_n 0, 1) := by decide +kernel
theorem dX10_text_64 : decode cX10_text 64 = .ok (.getfield 82, 3) := by decide +kernel
theorem dX10_text_67 : decode cX10_text 67 = .ok (.iconst 1, 1) := by decide +kernel
theorem dX10_text_68 : decode cX10_text 68 = .ok (.isub, 1) := by decide +kernel
theorem dX10_text_69 : decode cX10_text 69 = .ok (.goto 7, 3) := by decide +kernel
theorem dX10_text_72 : decode cX10_text 72 = .ok (.bipush (-100), 2) := by decide +kernel
theorem dX10_text_74 : decode cX10_text 74 = .ok (.iload_n 1, 1) := by decide +kernel
theorem dX10_text_75 : decode cX10_text 75 = .ok (.isub, 1) := by decide +kernel
theorem dX10_text_76 : decode cX10_text 76 = .ok (.ireturn, 1) := by decide +kernel
theorem dX10_force_0 : decode cX10_force 0 = .ok (.iload_n 1, 1) := by decide +kernel
theorem dX10_force_1 : decode cX10_force 1 = .ok (.ifCond .lt 11, 3) := by decide +kernel
theorem dX10_force_4 : decode cX10_force 4 = .ok (.iload_n 1, 1) := by decide +kernel
theorem dX10_force_5 : decode cX10_force 5 = .ok (.aload_n 0, 1) := by decide +kernel
theorem dX10_force_6 : decode cX10_force 6 = .ok (.getfield 82, 3) := by decide +kernel
theorem dX10_force_9 : decode cX10_force 9 = .ok (.if_icmp .lt 6, 3) := by decide +kernel
theorem dX10_force_12 : decode cX10_force 12 = .ok (.bipush (-2), 2) := by decide +kernel
theorem dX10_force_14 : decode cX10_force 14 = .ok (.ireturn, 1) := by decide +kernel
theorem dX10_force_15 : decode cX10_force 15 = .ok (.aload_n 0, 1) := by decide +kernel
theorem dX10_force_16 : decode cX10_force 16 = .ok (.getfield 15, 3) := by decide +kernel
theorem dX10_force_19 : decode cX10_force 19 = .ok (.bipush 11, 2) := by decide +kernel
theorem dX10_force_21 : decode cX10_force 21 = .ok (.iaload, 1) := by decide +kernel
theorem dX10_force_22 : decode cX10_force 22 = .ok (.istore_n 2, 1) := by decide +kernel
theorem dX10_force_23 : decode cX10_force 23 = .ok (.aload_n 0, 1) := by decide +kernel
theorem dX10_force_24 : decode cX10_force 24 = .ok (.getfield 15, 3) := by decide +kernel
theorem dX10_force_27 : decode cX10_force 27 = .ok (.bipush 11, 2) := by decide +kernel
theorem dX10_force_29 : decode cX10_force 29 = .ok (.iload_n 1, 1) := by decide +kernel
theorem dX10_force_30 : decode cX10_force 30 = .ok (.iastore, 1) := by decide +kernel
theorem dX10_force_31 : decode cX10_force 31 = .ok (.iload_n 2, 1) := by decide +kernel
theorem dX10_force_32 : decode cX10_force 32 = .ok (.ireturn, 1) := by decide +kernel
theorem dX10_rule_0 : decode cX10_rule 0 = .ok (.aload_n 0, 1) := by decide +kernel
theorem dX10_rule_1 : decode cX10_rule 1 = .ok (.getfield 35, 3) := by decide +kernel
theorem dX10_rule_4 : decode cX10_rule 4 = .ok (.aload_n 0, 1) := by decide +kernel
theorem dX10_rule_5 : decode cX10_rule 5 = .ok (.getfield 15, 3) := by decide +kernel
theorem dX10_rule_8 : decode cX10_rule 8 = .ok (.bipush 11, 2) := by decide +kernel
theorem dX10_rule_10 : decode cX10_rule 10 = .ok (.iaload, 1) := by decide +kernel
theorem dX10_rule_11 : decode cX10_rule 11 = .ok (.aaload, 1) := by decide +kernel
theorem dX10_rule_12 : decode cX10_rule 12 = .ok (.areturn, 1) := by decide +kernel
theorem dX10_nameAll_0 : decode cX10_nameAll 0 = .ok (.aload_n 0, 1) := by decide +kernel
theorem dX10_nameAll_1 : decode cX10_nameAll 1 = .ok (.getfield 39, 3) := by decide +kernel
theorem dX10_nameAll_4 : decode cX10_nameAll 4 = .ok (.iconst 0, 1) := by decide +kernel
theorem dX10_nameAll_5 : decode cX10_nameAll 5 = .ok (.iconst 0, 1) := by decide +kernel
theorem dX10_nameAll_6 : decode cX10_nameAll 6 = .ok (.iload_n 2, 1) := by decide +kernel
theorem dX10_nameAll_7 : decode cX10_nameAll 7 = .ok (.invokestatic 149, 3) := by decide +kernel
theorem dX10_nameAll_10 : decode cX10_nameAll 10 = .ok (.iastore, 1) := by decide +kernel
theorem dX10_nameAll_11 : decode cX10_nameAll 11 = .ok (.aload_n 0, 1) := by decide +kernel
theorem dX10_nameAll_12 : decode cX10_nameAll 12 = .ok (.getfield 39, 3) := by decide +kernel
theorem dX10_nameAll_15 : decode cX10_nameAll 15 = .ok (.iconst 1, 1) := by decide +kernel
theorem dX10_nameAll_16 : decode cX10_nameAll 16 = .ok (.iload 4, 2) := by decide +kernel
theorem dX10_nameAll_18 : decode cX10_nameAll 18 = .ok (.iastore, 1) := by decide +kernel
theorem dX10_nameAll_19 : decode cX10_nameAll 19 = .ok (.aload_n 0, 1) := by decide +kernel
theorem dX10_nameAll_20 : decode cX10_nameAll 20 = .ok (.getfield 39, 3) := by decide +kernel
theorem dX10_nameAll_23 : decode cX10_nameAll 23 = .ok (.iconst 2, 1) := by decide +kernel
theorem dX10_nameAll_24 : decode cX10_nameAll 24 = .ok (.iload_n 3, 1) := by decide +kernel
theorem dX10_nameAll_25 : decode cX10_nameAll 25 = .ok (.aload_n 0, 1) := by decide +kernel
theorem dX10_nameAll_26 : decode cX10_nameAll 26 = .ok (.getfield 11, 3) := by decide +kernel
theorem dX10_nameAll_29 : decode cX10_nameAll 29 = .ok (.iload_n 1, 1) := by decide +kernel
theorem dX10_nameAll_30 : decode cX10_nameAll 30 = .ok (.aaload, 1) := by decide +kernel
theorem dX10_nameAll_31 : decode cX10_nameAll 31 = .ok (.invokevirtual 152, 3) := by decide +kernel
theorem dX10_nameAll_34 : decode cX10_nameAll 34 = .ok (.isub, 1) := by decide +kernel
theorem dX10_nameAll_35 : decode cX10_nameAll 35 = .ok (.iastore, 1) := by decide +kernel
theorem dX10_nameAll_36 : decode cX10_nameAll 36 = .ok (.aload_n 0, 1) := by decide +kernel
theorem dX10_nameAll_37 : decode cX10_nameAll 37 = .ok (.getfield 39, 3) := by decide +kernel
theorem dX10_nameAll_40 : decode cX10_nameAll 40 = .ok (.iconst 3, 1) := by decide +kernel
theorem dX10_nameAll_41 : decode cX10_nameAll 41 = .ok (.aload_n 0, 1) := by decide +kernel
theorem dX10_nameAll_42 : decode cX10_nameAll 42 = .ok (.iload_n 2, 1) := by decide +kernel
theorem dX10_nameAll_43 : decode cX10_nameAll 43 = .ok (.invokevirtual 155, 3) := by decide +kernel
theorem dX10_nameAll_46 : decode cX10_nameAll 46 = .ok (.ifCond .eq 7, 3) := by decide +kernel
theorem dX10_nameAll_49 : decode cX10_nameAll 49 = .ok (.iconst 1, 1) := by decide +kernel
theorem dX10_nameAll_50 : decode cX10_nameAll 50 = .ok (.goto 4, 3) := by decide +kernel
theorem dX10_nameAll_53 : decode cX10_nameAll 53 = .ok (.iconst 0, 1) := by decide +kernel
theorem dX10_nameAll_54 : decode cX10_nameAll 54 = .ok (.iastore, 1) := by decide +kernel
theorem dX10_nameAll_55 : decode cX10_nameAll 55 = .ok (.aload_n 0, 1) := by decide +kernel
theorem dX10_nameAll_56 : decode cX10_nameAll 56 = .ok (.getfield 39, 3) := by decide +kernel
theorem dX10_nameAll_59 : decode cX10_nameAll 59 = .ok (.iconst 4, 1) := by decide +kernel
theorem dX10_nameAll_60 : decode cX10_nameAll 60 = .ok (.iload_n 1, 1) := by decide +kernel
theorem dX10_nameAll_61 : decode cX10_nameAll 61 = .ok (.iastore, 1) := by decide +kernel
theorem dX10_nameAll_62 : decode cX10_nameAll 62 = .ok (.aload_n 0, 1) := by decide +kernel
theorem dX10_nameAll_63 : decode cX10_nameAll 63 = .ok (.getfield 39, 3) := by decide +kernel
theorem dX10_nameAll_66 : decode cX10_nameAll 66 = .ok (.iconst 5, 1) := by decide +kernel
theorem dX10_nameAll_67 : decode cX10_nameAll 67 = .ok (.iload_n 3, 1) := by decide +kernel
theorem dX10_nameAll_68 : decode cX10_nameAll 68 = .ok (.iastore, 1) := by decide +kernel
theorem dX10_nameAll_69 : decode cX10_nameAll 69 = .ok (.return_, 1) := by decide +kernel
theorem dX10_isHidden_0 : decode cX10_isHidden 0 = .ok (.iload_n 1, 1) := by decide +kernel
theorem dX10_isHidden_1 : decode cX10_isHidden 1 = .ok (.bipush 8, 2) := by decide +kernel
theorem dX10_isHidden_3 : decode cX10_isHidden 3 = .ok (.idiv, 1) := by decide +kernel
theorem dX10_isHidden_4 : decode cX10_isHidden 4 = .ok (.aload_n 0, 1) := by decide +kernel
theorem dX10_isHidden_5 : decode cX10_isHidden 5 = .ok (.getfield 15, 3) := by decide +kernel
theorem dX10_isHidden_8 : decode cX10_isHidden 8 = .ok (.iconst 4, 1) := by decide +kernel
theorem dX10_isHidden_9 : decode cX10_isHidden 9 = .ok (.iaload, 1) := by decide +kernel
theorem dX10_isHidden_10 : decode cX10_isHidden 10 = .ok (.bipush 8, 2) := by decide +kernel
theorem dX10_isHidden_12 : decode cX10_isHidden 12 = .ok (.idiv, 1) := by decide +kernel
theorem dX10_isHidden_13 : decode cX10_isHidden 13 = .ok (.if_icmp .ne 23, 3) := by decide +kernel
theorem dX10_isHidden_16 : decode cX10_isHidden 16 = .ok (.iload_n 1, 1) := by decide +kernel
theorem dX10_isHidden_17 : decode cX10_isHidden 17 = .ok (.bipush 8, 2) := by decide +kernel
theorem dX10_isHidden_19 : decode cX10_isHidden 19 = .ok (.irem, 1) := by decide +kernel
theorem dX10_isHidden_20 : decode cX10_isHidden 20 = .ok (.aload_n 0, 1) := by decide +kernel
theorem dX10_isHidden_21 : decode cX10_isHidden 21 = .ok (.getfield 15, 3) := by decide +kernel
theorem dX10_isHidden_24 : decode cX10_isHidden 24 = .ok (.iconst 4, 1) := by decide +kernel
theorem dX10_isHidden_25 : decode cX10_isHidden 25 = .ok (.iaload, 1) := by decide +kernel
theorem dX10_isHidden_26 : decode cX10_isHidden 26 = .ok (.bipush 8, 2) := by decide +kernel
theorem dX10_isHidden_28 : decode cX10_isHidden 28 = .ok (.irem, 1) := by decide +kernel
theorem dX10_isHidden_29 : decode cX10_isHidden 29 = .ok (.if_icmp .le 7, 3) := by decide +kernel
theorem dX10_isHidden_32 : decode cX10_isHidden 32 = .ok (.iconst 1, 1) := by decide +kernel
theorem dX10_isHidden_33 : decode cX10_isHidden 33 = .ok (.goto 4, 3) := by decide +kernel
theorem dX10_isHidden_36 : decode cX10_isHidden 36 = .ok (.iconst 0, 1) := by decide +kernel
theorem dX10_isHidden_37 : decode cX10_isHidden 37 = .ok (.ireturn, 1) := by decide +kernel
theorem dX10_far_0 : decode cX10_far 0 = .ok (.iload_n 0, 1) := by decide +kernel
theorem dX10_far_1 : decode cX10_far 1 = .ok (.bipush 8, 2) := by decide +kernel
theorem dX10_far_3 : decode cX10_far 3 = .ok (.idiv, 1) := by decide +kernel
theorem dX10_far_4 : decode cX10_far 4 = .ok (.iload_n 1, 1) := by decide +kernel
theorem dX10_far_5 : decode cX10_far 5 = .ok (.bipush 8, 2) := by decide +kernel
theorem dX10_far_7 : decode cX10_far 7 = .ok (.idiv, 1) := by decide +kernel
theorem dX10_far_8 : decode cX10_far 8 = .ok (.isub, 1) := by decide +kernel
theorem dX10_far_9 : decode cX10_far 9 = .ok (.invokestatic 158, 3) := by decide +kernel
theorem dX10_far_12 : decode cX10_far 12 = .ok (.iload_n 0, 1) := by decide +kernel
theorem dX10_far_13 : decode cX10_far 13 = .ok (.bipush 8, 2) := by decide +kernel
theorem dX10_far_15 : decode cX10_far 15 = .ok (.irem, 1) := by decide +kernel
theorem dX10_far_16 : decode cX10_far 16 = .ok (.iload_n 1, 1) := by decide +kernel
theorem dX10_far_17 : decode cX10_far 17 = .ok (.bipush 8, 2) := by decide +kernel
theorem dX10_far_19 : decode cX10_far 19 = .ok (.irem, 1) := by decide +kernel
theorem dX10_far_20 : decode cX10_far 20 = .ok (.isub, 1) := by decide +kernel
theorem dX10_far_21 : decode cX10_far 21 = .ok (.invokestatic 158, 3) := by decide +kernel
theorem dX10_far_24 : decode cX10_far 24 = .ok (.iadd, 1) := by decide +kernel
theorem dX10_far_25 : decode cX10_far 25 = .ok (.ireturn, 1) := by decide +kernel
theorem dX10_call_0 : decode cX10_call 0 = .ok (.aload_n 0, 1) := by decide +kernel
theorem dX10_call_1 : decode cX10_call 1 = .ok (.iload_n 1, 1) := by decide +kernel
theorem dX10_call_2 : decode cX10_call 2 = .ok (.invokevirtual 99, 3) := by decide +kernel
theorem dX10_call_5 : decode cX10_call 5 = .ok (.ifCond .ne 6, 3) := by decide +kernel
theorem dX10_call_8 : decode cX10_call 8 = .ok (.bipush (-2), 2) := by decide +kernel
theorem dX10_call_10 : decode cX10_call 10 = .ok (.ireturn, 1) := by decide +kernel
theorem dX10_call_11 : decode cX10_call 11 = .ok (.aload_n 0, 1) := by decide +kernel
theorem dX10_call_12 : decode cX10_call 12 = .ok (.iload_n 1, 1) := by decide +kernel
theorem dX10_call_13 : decode cX10_call 13 = .ok (.invokevirtual 163, 3) := by decide +kernel
theorem dX10_call_16 : decode cX10_call 16 = .ok (.ifCond .ne 6, 3) := by decide +kernel
theorem dX10_call_19 : decode cX10_call 19 = .ok (.bipush (-3), 2) := by decide +kernel
theorem dX10_call_21 : decode cX10_call 21 = .ok (.ireturn, 1) := by decide +kernel
theorem dX10_call_22 : decode cX10_call 22 = .ok (.aload_n 0, 1) := by decide +kernel
theorem dX10_call_23 : decode cX10_call 23 = .ok (.iload_n 1, 1) := by decide +kernel
theorem dX10_call_24 : decode cX10_call 24 = .ok (.invokevirtual 115, 3) := by decide +kernel
theorem dX10_call_27 : decode cX10_call 27 = .ok (.ifCond .ne 5, 3) := by decide +kernel
theorem dX10_call_30 : decode cX10_call 30 = .ok (.iconst 0, 1) := by decide +kernel
theorem dX10_call_31 : decode cX10_call 31 = .ok (.ireturn, 1) := by decide +kernel
theorem dX10_call_32 : decode cX10_call 32 = .ok (.aload_n 0, 1) := by decide +kernel
theorem dX10_call_33 : decode cX10_call 33 = .ok (.getfield 11, 3) := by decide +kernel
theorem dX10_call_36 : decode cX10_call 36 = .ok (.iload_n 1, 1) := by decide +kernel
theorem dX10_call_37 : decode cX10_call 37 = .ok (.aaload, 1) := by decide +kernel
theorem dX10_call_38 : decode cX10_call 38 = .ok (.getfield 102, 3) := by decide +kernel
theorem dX10_call_41 : decode cX10_call 41 = .ok (.iconst 4, 1) := by decide +kernel
theorem dX10_call_42 : decode cX10_call 42 = .ok (.iconst 1, 1) := by decide +kernel
theorem dX10_call_43 : decode cX10_call 43 = .ok (.iastore, 1) := by decide +kernel
theorem dX10_call_44 : decode cX10_call 44 = .ok (.aload_n 0, 1) := by decide +kernel
theorem dX10_call_45 : decode cX10_call 45 = .ok (.getfield 11, 3) := by decide +kernel
theorem dX10_call_48 : decode cX10_call 48 = .ok (.iload_n 1, 1) := by decide +kernel
theorem dX10_call_49 : decode cX10_call 49 = .ok (.aaload, 1) := by decide +kernel
theorem dX10_call_50 : decode cX10_call 50 = .ok (.getfield 102, 3) := by decide +kernel
theorem dX10_call_53 : decode cX10_call 53 = .ok (.iconst 5, 1) := by decide +kernel
theorem dX10_call_54 : decode cX10_call 54 = .ok (.aload_n 0, 1) := by decide +kernel
theorem dX10_call_55 : decode cX10_call 55 = .ok (.getfield 15, 3) := by decide +kernel
theorem dX10_call_58 : decode cX10_call 58 = .ok (.bipush 9, 2) := by decide +kernel
theorem dX10_call_60 : decode cX10_call 60 = .ok (.iaload, 1) := by decide +kernel
theorem dX10_call_61 : decode cX10_call 61 = .ok (.aload_n 0, 1) := by decide +kernel
theorem dX10_call_62 : decode cX10_call 62 = .ok (.iload_n 1, 1) := by decide +kernel
theorem dX10_call_63 : decode cX10_call 63 = .ok (.invokevirtual 166, 3) := by decide +kernel
theorem dX10_call_66 : decode cX10_call 66 = .ok (.iadd, 1) := by decide +kernel
theorem dX10_call_67 : decode cX10_call 67 = .ok (.iastore, 1) := by decide +kernel
theorem dX10_call_68 : decode cX10_call 68 = .ok (.iconst 1, 1) := by decide +kernel
theorem dX10_call_69 : decode cX10_call 69 = .ok (.ireturn, 1) := by decide +kernel
theorem dX10_time_0 : decode cX10_time 0 = .ok (.iload_n 1, 1) := by decide +kernel
theorem dX10_time_1 : decode cX10_time 1 = .ok (.ifCond .lt 10, 3) := by decide +kernel
theorem dX10_time_4 : decode cX10_time 4 = .ok (.iload_n 1, 1) := by decide +kernel
theorem dX10_time_5 : decode cX10_time 5 = .ok (.sipush 240, 3) := by decide +kernel
theorem dX10_time_8 : decode cX10_time 8 = .ok (.if_icmp .le 8, 3) := by decide +kernel
theorem dX10_time_11 : decode cX10_time 11 = .ok (.bipush (-2), 2) := by decide +kernel
theorem dX10_time_13 : decode cX10_time 13 = .ok (.goto 8, 3) := by decide +kernel
theorem dX10_time_16 : decode cX10_time 16 = .ok (.aload_n 0, 1) := by decide +kernel
theorem dX10_time_17 : decode cX10_time 17 = .ok (.iload_n 1, 1) := by decide +kernel
theorem dX10_time_18 : decode cX10_time 18 = .ok (.invokevirtual 169, 3) := by decide +kernel
theorem dX10_time_21 : decode cX10_time 21 = .ok (.ireturn, 1) := by decide +kernel
theorem dX10_nobody_0 : decode cX10_nobody 0 = .ok (.iconst 0, 1) := by decide +kernel
theorem dX10_nobody_1 : decode cX10_nobody 1 = .ok (.istore_n 1, 1) := by decide +kernel
theorem dX10_nobody_2 : decode cX10_nobody 2 = .ok (.iconst 0, 1) := by decide +kernel
theorem dX10_nobody_3 : decode cX10_nobody 3 = .ok (.istore_n 2, 1) := by decide +kernel
theorem dX10_nobody_4 : decode cX10_nobody 4 = .ok (.iload_n 2, 1) := by decide +kernel
theorem dX10_nobody_5 : decode cX10_nobody 5 = .ok (.aload_n 0, 1) := by decide +kernel
theorem dX10_nobody_6 : decode cX10_nobody 6 = .ok (.getfield 92, 3) := by decide +kernel
theorem dX10_nobody_9 : decode cX10_nobody 9 = .ok (.if_icmp .ge 31, 3) := by decide +kernel
theorem dX10_nobody_12 : decode cX10_nobody 12 = .ok (.aload_n 0, 1) := by decide +kernel
theorem dX10_nobody_13 : decode cX10_nobody 13 = .ok (.iload_n 2, 1) := by decide +kernel
theorem dX10_nobody_14 : decode cX10_nobody 14 = .ok (.invokevirtual 163, 3) := by decide +kernel
theorem dX10_nobody_17 : decode cX10_nobody 17 = .ok (.ifCond .eq 17, 3) := by decide +kernel
theorem dX10_nobody_20 : decode cX10_nobody 20 = .ok (.aload_n 0, 1) := by decide +kernel
theorem dX10_nobody_21 : decode cX10_nobody 21 = .ok (.iload_n 2, 1) := by decide +kernel
theorem dX10_nobody_22 : decode cX10_nobody 22 = .ok (.invokevirtual 115, 3) := by decide +kernel
theorem dX10_nobody_25 : decode cX10_nobody 25 = .ok (.ifCond .ne 9, 3) := by decide +kernel
theorem dX10_nobody_28 : decode cX10_nobody 28 = .ok (.iload_n 1, 1) := by decide +kernel
theorem dX10_nobody_29 : decode cX10_nobody 29 = .ok (.iconst 1, 1) := by decide +kernel
theorem dX10_nobody_30 : decode cX10_nobody 30 = .ok (.iload_n 2, 1) := by decide +kernel
theorem dX10_nobody_31 : decode cX10_nobody 31 = .ok (.ishl, 1) := by decide +kernel
theorem dX10_nobody_32 : decode cX10_nobody 32 = .ok (.ior, 1) := by decide +kernel
theorem dX10_nobody_33 : decode cX10_nobody 33 = .ok (.istore_n 1, 1) := by decide +kernel
theorem dX10_nobody_34 : decode cX10_nobody 34 = .ok (.iinc 2 1, 3) := by decide +kernel
theorem dX10_nobody_37 : decode cX10_nobody 37 = .ok (.goto (-33), 3) := by decide +kernel
theorem dX10_nobody_40 : decode cX10_nobody 40 = .ok (.iload_n 1, 1) := by decide +kernel
theorem dX10_nobody_41 : decode cX10_nobody 41 = .ok (.ireturn, 1) := by decide +kernel
theorem dX10_callAt_0 : decode cX10_callAt 0 = .ok (.aload_n 0, 1) := by decide +kernel
theorem dX10_callAt_1 : decode cX10_callAt 1 = .ok (.iload_n 1, 1) := by decide +kernel
theorem dX10_callAt_2 : decode cX10_callAt 2 = .ok (.invokevirtual 99, 3) := by decide +kernel
theorem dX10_callAt_5 : decode cX10_callAt 5 = .ok (.ifCond .ne 6, 3) := by decide +kernel
theorem dX10_callAt_8 : decode cX10_callAt 8 = .ok (.bipush (-2), 2) := by decide +kernel
theorem dX10_callAt_10 : decode cX10_callAt 10 = .ok (.ireturn, 1) := by decide +kernel
theorem dX10_callAt_11 : decode cX10_callAt 11 = .ok (.aload_n 0, 1) := by decide +kernel
theorem dX10_callAt_12 : decode cX10_callAt 12 = .ok (.iload_n 1, 1) := by decide +kernel
theorem dX10_callAt_13 : decode cX10_callAt 13 = .ok (.invokevirtual 163, 3) := by decide +kernel
theorem dX10_callAt_16 : decode cX10_callAt 16 = .ok (.ifCond .ne 6, 3) := by decide +kernel
theorem dX10_callAt_19 : decode cX10_callAt 19 = .ok (.bipush (-3), 2) := by decide +kernel
theorem dX10_callAt_21 : decode cX10_callAt 21 = .ok (.ireturn, 1) := by decide +kernel
theorem dX10_callAt_22 : decode cX10_callAt 22 = .ok (.aload_n 0, 1) := by decide +kernel
theorem dX10_callAt_23 : decode cX10_callAt 23 = .ok (.getfield 11, 3) := by decide +kernel
theorem dX10_callAt_26 : decode cX10_callAt 26 = .ok (.iload_n 1, 1) := by decide +kernel
theorem dX10_callAt_27 : decode cX10_callAt 27 = .ok (.aaload, 1) := by decide +kernel
theorem dX10_callAt_28 : decode cX10_callAt 28 = .ok (.invokevirtual 152, 3) := by decide +kernel
theorem dX10_callAt_31 : decode cX10_callAt 31 = .ok (.aload_n 0, 1) := by decide +kernel
theorem dX10_callAt_32 : decode cX10_callAt 32 = .ok (.iload_n 1, 1) := by decide +kernel
theorem dX10_callAt_33 : decode cX10_callAt 33 = .ok (.invokevirtual 166, 3) := by decide +kernel
theorem dX10_callAt_36 : decode cX10_callAt 36 = .ok (.isub, 1) := by decide +kernel
theorem dX10_callAt_37 : decode cX10_callAt 37 = .ok (.istore_n 2, 1) := by decide +kernel
theorem dX10_callAt_38 : decode cX10_callAt 38 = .ok (.iconst 0, 1) := by decide +kernel
theorem dX10_callAt_39 : decode cX10_callAt 39 = .ok (.istore_n 3, 1) := by decide +kernel
theorem dX10_callAt_40 : decode cX10_callAt 40 = .ok (.iload_n 3, 1) := by decide +kernel
theorem dX10_callAt_41 : decode cX10_callAt 41 = .ok (.sipush 240, 3) := by decide +kernel
theorem dX10_callAt_44 : decode cX10_callAt 44 = .ok (.if_icmp .gt 55, 3) := by decide +kernel
theorem dX10_callAt_47 : decode cX10_callAt 47 = .ok (.aload_n 0, 1) := by decide +kernel
theorem dX10_callAt_48 : decode cX10_callAt 48 = .ok (.getfield 15, 3) := by decide +kernel
theorem dX10_callAt_51 : decode cX10_callAt 51 = .ok (.bipush 9, 2) := by decide +kernel
theorem dX10_callAt_53 : decode cX10_callAt 53 = .ok (.iaload, 1) := by decide +kernel
theorem dX10_callAt_54 : decode cX10_callAt 54 = .ok (.iload_n 3, 1) := by decide +kernel
theorem dX10_callAt_55 : decode cX10_callAt 55 = .ok (.iadd, 1) := by decide +kernel
theorem dX10_callAt_56 : decode cX10_callAt 56 = .ok (.istore 4, 2) := by decide +kernel
theorem dX10_callAt_58 : decode cX10_callAt 58 = .ok (.iload 4, 2) := by decide +kernel
theorem dX10_callAt_60 : decode cX10_callAt 60 = .ok (.iload_n 2, 1) := by decide +kernel
theorem dX10_callAt_61 : decode cX10_callAt 61 = .ok (.if_icmp .lt 32, 3) := by decide +kernel
theorem dX10_callAt_64 : decode cX10_callAt 64 = .ok (.aload_n 0, 1) := by decide +kernel
theorem dX10_callAt_65 : decode cX10_callAt 65 = .ok (.iload_n 1, 1) := by decide +kernel
theorem dX10_callAt_66 : decode cX10_callAt 66 = .ok (.aload_n 0, 1) := by decide +kernel
theorem dX10_callAt_67 : decode cX10_callAt 67 = .ok (.getfield 11, 3) := by decide +kernel
theorem dX10_callAt_70 : decode cX10_callAt 70 = .ok (.iload_n 1, 1) := by decide +kernel
theorem dX10_callAt_71 : decode cX10_callAt 71 = .ok (.aaload, 1) := by decide +kernel
theorem dX10_callAt_72 : decode cX10_callAt 72 = .ok (.getfield 102, 3) := by decide +kernel
theorem dX10_callAt_75 : decode cX10_callAt 75 = .ok (.iconst 0, 1) := by decide +kernel
theorem dX10_callAt_76 : decode cX10_callAt 76 = .ok (.iaload, 1) := by decide +kernel
theorem dX10_callAt_77 : decode cX10_callAt 77 = .ok (.iload 4, 2) := by decide +kernel
theorem dX10_callAt_79 : decode cX10_callAt 79 = .ok (.aload_n 0, 1) := by decide +kernel
theorem dX10_callAt_80 : decode cX10_callAt 80 = .ok (.getfield 15, 3) := by decide +kernel
theorem dX10_callAt_83 : decode cX10_callAt 83 = .ok (.iconst 5, 1) := by decide +kernel
theorem dX10_callAt_84 : decode cX10_callAt 84 = .ok (.iaload, 1) := by decide +kernel
theorem dX10_callAt_85 : decode cX10_callAt 85 = .ok (.invokevirtual 172, 3) := by decide +kernel
theorem dX10_callAt_88 : decode cX10_callAt 88 = .ok (.ifCond .eq 5, 3) := by decide +kernel
theorem dX10_callAt_91 : decode cX10_callAt 91 = .ok (.iload_n 3, 1) := by decide +kernel
theorem dX10_callAt_92 : decode cX10_callAt 92 = .ok (.ireturn, 1) := by decide +kernel
theorem dX10_callAt_93 : decode cX10_callAt 93 = .ok (.iinc 3 1, 3) := by decide +kernel
theorem dX10_callAt_96 : decode cX10_callAt 96 = .ok (.goto (-56), 3) := by decide +kernel
theorem dX10_callAt_99 : decode cX10_callAt 99 = .ok (.iconst (-1), 1) := by decide +kernel
theorem dX10_callAt_100 : decode cX10_callAt 100 = .ok (.ireturn, 1) := by decide +kernel
theorem dX10_allIn_0 : decode cX10_allIn 0 = .ok (.aload_n 0, 1) := by decide +kernel
theorem dX10_allIn_1 : decode cX10_allIn 1 = .ok (.getfield 15, 3) := by decide +kernel
theorem dX10_allIn_4 : decode cX10_allIn 4 = .ok (.bipush 9, 2) := by decide +kernel
theorem dX10_allIn_6 : decode cX10_allIn 6 = .ok (.iaload, 1) := by decide +kernel
theorem dX10_allIn_7 : decode cX10_allIn 7 = .ok (.istore_n 1, 1) := by decide +kernel
theorem dX10_allIn_8 : decode cX10_allIn 8 = .ok (.iconst 0, 1) := by decide +kernel
theorem dX10_allIn_9 : decode cX10_allIn 9 = .ok (.istore_n 2, 1) := by decide +kernel
theorem dX10_allIn_10 : decode cX10_allIn 10 = .ok (.iload_n 2, 1) := by decide +kernel
theorem dX10_allIn_11 : decode cX10_allIn 11 = .ok (.aload_n 0, 1) := by decide +kernel
theorem dX10_allIn_12 : decode cX10_allIn 12 = .ok (.getfield 92, 3) := by decide +kernel
theorem dX10_allIn_15 : decode cX10_allIn 15 = .ok (.if_icmp .ge 19, 3) := by decide +kernel
theorem dX10_allIn_18 : decode cX10_allIn 18 = .ok (.iload_n 1, 1) := by decide +kernel
theorem dX10_allIn_19 : decode cX10_allIn 19 = .ok (.aload_n 0, 1) := by decide +kernel
theorem dX10_allIn_20 : decode cX10_allIn 20 = .ok (.iload_n 2, 1) := by decide +kernel
theorem dX10_allIn_21 : decode cX10_allIn 21 = .ok (.invokevirtual 176, 3) := by decide +kernel
theorem dX10_allIn_24 : decode cX10_allIn 24 = .ok (.invokestatic 179, 3) := by decide +kernel
theorem dX10_allIn_27 : decode cX10_allIn 27 = .ok (.istore_n 1, 1) := by decide +kernel
theorem dX10_allIn_28 : decode cX10_allIn 28 = .ok (.iinc 2 1, 3) := by decide +kernel
theorem dX10_allIn_31 : decode cX10_allIn 31 = .ok (.goto (-21), 3) := by decide +kernel
theorem dX10_allIn_34 : decode cX10_allIn 34 = .ok (.iload_n 1, 1) := by decide +kernel
theorem dX10_allIn_35 : decode cX10_allIn 35 = .ok (.ireturn, 1) := by decide +kernel
theorem dX10_isOnTheLake_0 : decode cX10_isOnTheLake 0 = .ok (.aload_n 0, 1) := by decide +kernel
theorem dX10_isOnTheLake_1 : decode cX10_isOnTheLake 1 = .ok (.getfield 11, 3) := by decide +kernel
theorem dX10_isOnTheLake_4 : decode cX10_isOnTheLake 4 = .ok (.iload_n 1, 1) := by decide +kernel
theorem dX10_isOnTheLake_5 : decode cX10_isOnTheLake 5 = .ok (.aaload, 1) := by decide +kernel
theorem dX10_isOnTheLake_6 : decode cX10_isOnTheLake 6 = .ok (.getfield 102, 3) := by decide +kernel
theorem dX10_isOnTheLake_9 : decode cX10_isOnTheLake 9 = .ok (.iconst 4, 1) := by decide +kernel
theorem dX10_isOnTheLake_10 : decode cX10_isOnTheLake 10 = .ok (.iaload, 1) := by decide +kernel
theorem dX10_isOnTheLake_11 : decode cX10_isOnTheLake 11 = .ok (.ifCond .ne 7, 3) := by decide +kernel
theorem dX10_isOnTheLake_14 : decode cX10_isOnTheLake 14 = .ok (.iconst 1, 1) := by decide +kernel
theorem dX10_isOnTheLake_15 : decode cX10_isOnTheLake 15 = .ok (.goto 4, 3) := by decide +kernel
theorem dX10_isOnTheLake_18 : decode cX10_isOnTheLake 18 = .ok (.iconst 0, 1) := by decide +kernel
theorem dX10_isOnTheLake_19 : decode cX10_isOnTheLake 19 = .ok (.ireturn, 1) := by decide +kernel
theorem dX10_needs_0 : decode cX10_needs 0 = .ok (.iconst 0, 1) := by decide +kernel
theorem dX10_needs_1 : decode cX10_needs 1 = .ok (.aload_n 0, 1) := by decide +kernel
theorem dX10_needs_2 : decode cX10_needs 2 = .ok (.getfield 11, 3) := by decide +kernel
theorem dX10_needs_5 : decode cX10_needs 5 = .ok (.iload_n 1, 1) := by decide +kernel
theorem dX10_needs_6 : decode cX10_needs 6 = .ok (.aaload, 1) := by decide +kernel
theorem dX10_needs_7 : decode cX10_needs 7 = .ok (.getfield 102, 3) := by decide +kernel
theorem dX10_needs_10 : decode cX10_needs 10 = .ok (.iconst 0, 1) := by decide +kernel
theorem dX10_needs_11 : decode cX10_needs 11 = .ok (.iaload, 1) := by decide +kernel
theorem dX10_needs_12 : decode cX10_needs 12 = .ok (.invokestatic 149, 3) := by decide +kernel
theorem dX10_needs_15 : decode cX10_needs 15 = .ok (.aload_n 0, 1) := by decide +kernel
theorem dX10_needs_16 : decode cX10_needs 16 = .ok (.getfield 11, 3) := by decide +kernel
theorem dX10_needs_19 : decode cX10_needs 19 = .ok (.iload_n 1, 1) := by decide +kernel
theorem dX10_needs_20 : decode cX10_needs 20 = .ok (.aaload, 1) := by decide +kernel
theorem dX10_needs_21 : decode cX10_needs 21 = .ok (.aload_n 0, 1) := by decide +kernel
theorem dX10_needs_22 : decode cX10_needs 22 = .ok (.getfield 15, 3) := by decide +kernel
theorem dX10_needs_25 : decode cX10_needs 25 = .ok (.iconst 5, 1) := by decide +kernel
theorem dX10_needs_26 : decode cX10_needs 26 = .ok (.iaload, 1) := by decide +kernel
theorem dX10_needs_27 : decode cX10_needs 27 = .ok (.invokevirtual 108, 3) := by decide +kernel
theorem dX10_needs_30 : decode cX10_needs 30 = .ok (.imul, 1) := by decide +kernel
theorem dX10_needs_31 : decode cX10_needs 31 = .ok (.ireturn, 1) := by decide +kernel
theorem dX10_wouldComeNow_0 : decode cX10_wouldComeNow 0 = .ok (.aload_n 0, 1) := by decide +kernel
theorem dX10_wouldComeNow_1 : decode cX10_wouldComeNow 1 = .ok (.iload_n 1, 1) := by decide +kernel
theorem dX10_wouldComeNow_2 : decode cX10_wouldComeNow 2 = .ok (.aload_n 0, 1) := by decide +kernel
theorem dX10_wouldComeNow_3 : decode cX10_wouldComeNow 3 = .ok (.getfield 11, 3) := by decide +kernel
theorem dX10_wouldComeNow_6 : decode cX10_wouldComeNow 6 = .ok (.iload_n 1, 1) := by decide +kernel
theorem dX10_wouldComeNow_7 : decode cX10_wouldComeNow 7 = .ok (.aaload, 1) := by decide +kernel
theorem dX10_wouldComeNow_8 : decode cX10_wouldComeNow 8 = .ok (.getfield 102, 3) := by decide +kernel
theorem dX10_wouldComeNow_11 : decode cX10_wouldComeNow 11 = .ok (.iconst 0, 1) := by decide +kernel
theorem dX10_wouldComeNow_12 : decode cX10_wouldComeNow 12 = .ok (.iaload, 1) := by decide +kernel
theorem dX10_wouldComeNow_13 : decode cX10_wouldComeNow 13 = .ok (.aload_n 0, 1) := by decide +kernel
theorem dX10_wouldComeNow_14 : decode cX10_wouldComeNow 14 = .ok (.getfield 15, 3) := by decide +kernel
theorem dX10_wouldComeNow_17 : decode cX10_wouldComeNow 17 = .ok (.bipush 9, 2) := by decide +kernel
theorem dX10_wouldComeNow_19 : decode cX10_wouldComeNow 19 = .ok (.iaload, 1) := by decide +kernel
theorem dX10_wouldComeNow_20 : decode cX10_wouldComeNow 20 = .ok (.aload_n 0, 1) := by decide +kernel
theorem dX10_wouldComeNow_21 : decode cX10_wouldComeNow 21 = .ok (.getfield 15, 3) := by decide +kernel
theorem dX10_wouldComeNow_24 : decode cX10_wouldComeNow 24 = .ok (.iconst 5, 1) := by decide +kernel
theorem dX10_wouldComeNow_25 : decode cX10_wouldComeNow 25 = .ok (.iaload, 1) := by decide +kernel
theorem dX10_wouldComeNow_26 : decode cX10_wouldComeNow 26 = .ok (.invokevirtual 172, 3) := by decide +kernel
theorem dX10_wouldComeNow_29 : decode cX10_wouldComeNow 29 = .ok (.ireturn, 1) := by decide +kernel
theorem dX10_wouldCome_0 : decode cX10_wouldCome 0 = .ok (.iconst 0, 1) := by decide +kernel
theorem dX10_wouldCome_1 : decode cX10_wouldCome 1 = .ok (.iload_n 2, 1) := by decide +kernel
theorem dX10_wouldCome_2 : decode cX10_wouldCome 2 = .ok (.invokestatic 149, 3) := by decide +kernel
theorem dX10_wouldCome_5 : decode cX10_wouldCome 5 = .ok (.aload_n 0, 1) := by decide +kernel
theorem dX10_wouldCome_6 : decode cX10_wouldCome 6 = .ok (.getfield 11, 3) := by decide +kernel
theorem dX10_wouldCome_9 : decode cX10_wouldCome 9 = .ok (.iload_n 1, 1) := by decide +kernel
theorem dX10_wouldCome_10 : decode cX10_wouldCome 10 = .ok (.aaload, 1) := by decide +kernel
theorem dX10_wouldCome_11 : decode cX10_wouldCome 11 = .ok (.iload 4, 2) := by decide +kernel
theorem dX10_wouldCome_13 : decode cX10_wouldCome 13 = .ok (.invokevirtual 112, 3) := by decide +kernel
theorem dX10_wouldCome_16 : decode cX10_wouldCome 16 = .ok (.if_icmp .le 5, 3) := by decide +kernel
theorem dX10_wouldCome_19 : decode cX10_wouldCome 19 = .ok (.iconst 0, 1) := by decide +kernel
theorem dX10_wouldCome_20 : decode cX10_wouldCome 20 = .ok (.ireturn, 1) := by decide +kernel
theorem dX10_wouldCome_21 : decode cX10_wouldCome 21 = .ok (.aload_n 0, 1) := by decide +kernel
theorem dX10_wouldCome_22 : decode cX10_wouldCome 22 = .ok (.iload_n 1, 1) := by decide +kernel
theorem dX10_wouldCome_23 : decode cX10_wouldCome 23 = .ok (.iload_n 2, 1) := by decide +kernel
theorem dX10_wouldCome_24 : decode cX10_wouldCome 24 = .ok (.iload_n 3, 1) := by decide +kernel
theorem dX10_wouldCome_25 : decode cX10_wouldCome 25 = .ok (.iload 4, 2) := by decide +kernel
theorem dX10_wouldCome_27 : decode cX10_wouldCome 27 = .ok (.invokevirtual 182, 3) := by decide +kernel
theorem dX10_wouldCome_30 : decode cX10_wouldCome 30 = .ok (.aload_n 0, 1) := by decide +kernel
theorem dX10_wouldCome_31 : decode cX10_wouldCome 31 = .ok (.invokevirtual 186, 3) := by decide +kernel
theorem dX10_wouldCome_34 : decode cX10_wouldCome 34 = .ok (.iconst 1, 1) := by decide +kernel
theorem dX10_wouldCome_35 : decode cX10_wouldCome 35 = .ok (.aload_n 0, 1) := by decide +kernel
theorem dX10_wouldCome_36 : decode cX10_wouldCome 36 = .ok (.getfield 39, 3) := by decide +kernel
theorem dX10_wouldCome_39 : decode cX10_wouldCome 39 = .ok (.invokevirtual 189, 3) := by decide +kernel
theorem dX10_wouldCome_42 : decode cX10_wouldCome 42 = .ok (.ifCond .eq 22, 3) := by decide +kernel
theorem dX10_wouldCome_45 : decode cX10_wouldCome 45 = .ok (.aload_n 0, 1) := by decide +kernel
theorem dX10_wouldCome_46 : decode cX10_wouldCome 46 = .ok (.invokevirtual 186, 3) := by decide +kernel
theorem dX10_wouldCome_49 : decode cX10_wouldCome 49 = .ok (.iconst 2, 1) := by decide +kernel
theorem dX10_wouldCome_50 : decode cX10_wouldCome 50 = .ok (.aload_n 0, 1) := by decide +kernel
theorem dX10_wouldCome_51 : decode cX10_wouldCome 51 = .ok (.getfield 39, 3) := by decide +kernel
theorem dX10_wouldCome_54 : decode cX10_wouldCome 54 = .ok (.invokevirtual 189, 3) := by decide +kernel
theorem dX10_wouldCome_57 : decode cX10_wouldCome 57 = .ok (.ifCond .eq 7, 3) := by decide +kernel
theorem dX10_wouldCome_60 : decode cX10_wouldCome 60 = .ok (.iconst 1, 1) := by decide +kernel
theorem dX10_wouldCome_61 : decode cX10_wouldCome 61 = .ok (.goto 4, 3) := by decide +kernel
theorem dX10_wouldCome_64 : decode cX10_wouldCome 64 = .ok (.iconst 0, 1) := by decide +kernel
theorem dX10_wouldCome_65 : decode cX10_wouldCome 65 = .ok (.ireturn, 1) := by decide +kernel
theorem dX10_comingAt_0 : decode cX10_comingAt 0 = .ok (.aload_n 0, 1) := by decide +kernel
theorem dX10_comingAt_1 : decode cX10_comingAt 1 = .ok (.getfield 11, 3) := by decide +kernel
theorem dX10_comingAt_4 : decode cX10_comingAt 4 = .ok (.iload_n 1, 1) := by decide +kernel
theorem dX10_comingAt_5 : decode cX10_comingAt 5 = .ok (.aaload, 1) := by decide +kernel
theorem dX10_comingAt_6 : decode cX10_comingAt 6 = .ok (.getfield 102, 3) := by decide +kernel
theorem dX10_comingAt_9 : decode cX10_comingAt 9 = .ok (.iconst 4, 1) := by decide +kernel
theorem dX10_comingAt_10 : decode cX10_comingAt 10 = .ok (.iaload, 1) := by decide +kernel
theorem dX10_comingAt_11 : decode cX10_comingAt 11 = .ok (.iconst 1, 1) := by decide +kernel
theorem dX10_comingAt_12 : decode cX10_comingAt 12 = .ok (.if_icmp .ne 15, 3) := by decide +kernel
theorem dX10_comingAt_15 : decode cX10_comingAt 15 = .ok (.aload_n 0, 1) := by decide +kernel
theorem dX10_comingAt_16 : decode cX10_comingAt 16 = .ok (.getfield 11, 3) := by decide +kernel
theorem dX10_comingAt_19 : decode cX10_comingAt 19 = .ok (.iload_n 1, 1) := by decide +kernel
theorem dX10_comingAt_20 : decode cX10_comingAt 20 = .ok (.aaload, 1) := by decide +kernel
theorem dX10_comingAt_21 : decode cX10_comingAt 21 = .ok (.getfield 102, 3) := by decide +kernel
theorem dX10_comingAt_24 : decode cX10_comingAt 24 = .ok (.iconst 5, 1) := by decide +kernel
theorem dX10_comingAt_25 : decode cX10_comingAt 25 = .ok (.iaload, 1) := by decide +kernel
theorem dX10_comingAt_26 : decode cX10_comingAt 26 = .ok (.ireturn, 1) := by decide +kernel
theorem dX10_comingAt_27 : decode cX10_comingAt 27 = .ok (.aload_n 0, 1) := by decide +kernel
theorem dX10_comingAt_28 : decode cX10_comingAt 28 = .ok (.iload_n 1, 1) := by decide +kernel
theorem dX10_comingAt_29 : decode cX10_comingAt 29 = .ok (.invokevirtual 163, 3) := by decide +kernel
theorem dX10_comingAt_32 : decode cX10_comingAt 32 = .ok (.ifCond .eq 27, 3) := by decide +kernel
theorem dX10_comingAt_35 : decode cX10_comingAt 35 = .ok (.aload_n 0, 1) := by decide +kernel
theorem dX10_comingAt_36 : decode cX10_comingAt 36 = .ok (.iload_n 1, 1) := by decide +kernel
theorem dX10_comingAt_37 : decode cX10_comingAt 37 = .ok (.invokevirtual 115, 3) := by decide +kernel
theorem dX10_comingAt_40 : decode cX10_comingAt 40 = .ok (.ifCond .eq 19, 3) := by decide +kernel
theorem dX10_comingAt_43 : decode cX10_comingAt 43 = .ok (.aload_n 0, 1) := by decide +kernel
theorem dX10_comingAt_44 : decode cX10_comingAt 44 = .ok (.getfield 15, 3) := by decide +kernel
theorem dX10_comingAt_47 : decode cX10_comingAt 47 = .ok (.bipush 9, 2) := by decide +kernel
theorem dX10_comingAt_49 : decode cX10_comingAt 49 = .ok (.iaload, 1) := by decide +kernel
theorem dX10_comingAt_50 : decode cX10_comingAt 50 = .ok (.aload_n 0, 1) := by decide +kernel
theorem dX10_comingAt_51 : decode cX10_comingAt 51 = .ok (.iload_n 1, 1) := by decide +kernel
theorem dX10_comingAt_52 : decode cX10_comingAt 52 = .ok (.invokevirtual 166, 3) := by decide +kernel
theorem dX10_comingAt_55 : decode cX10_comingAt 55 = .ok (.iadd, 1) := by decide +kernel
theorem dX10_comingAt_56 : decode cX10_comingAt 56 = .ok (.goto 4, 3) := by decide +kernel
theorem dX10_comingAt_59 : decode cX10_comingAt 59 = .ok (.iconst (-1), 1) := by decide +kernel
theorem dX10_comingAt_60 : decode cX10_comingAt 60 = .ok (.ireturn, 1) := by decide +kernel
theorem dX10_pass_0 : decode cX10_pass 0 = .ok (.aload_n 0, 1) := by decide +kernel
theorem dX10_pass_1 : decode cX10_pass 1 = .ok (.getfield 15, 3) := by decide +kernel
theorem dX10_pass_4 : decode cX10_pass 4 = .ok (.bipush 9, 2) := by decide +kernel
theorem dX10_pass_6 : decode cX10_pass 6 = .ok (.sipush 9999, 3) := by decide +kernel
theorem dX10_pass_9 : decode cX10_pass 9 = .ok (.aload_n 0, 1) := by decide +kernel
theorem dX10_pass_10 : decode cX10_pass 10 = .ok (.getfield 15, 3) := by decide +kernel
theorem dX10_pass_13 : decode cX10_pass 13 = .ok (.bipush 9, 2) := by decide +kernel
theorem dX10_pass_15 : decode cX10_pass 15 = .ok (.iaload, 1) := by decide +kernel
theorem dX10_pass_16 : decode cX10_pass 16 = .ok (.iload_n 1, 1) := by decide +kernel
theorem dX10_pass_17 : decode cX10_pass 17 = .ok (.iadd, 1) := by decide +kernel
theorem dX10_pass_18 : decode cX10_pass 18 = .ok (.invokestatic 193, 3) := by decide +kernel
theorem dX10_pass_21 : decode cX10_pass 21 = .ok (.iastore, 1) := by decide +kernel
theorem dX10_pass_22 : decode cX10_pass 22 = .ok (.iconst 0, 1) := by decide +kernel
theorem dX10_pass_23 : decode cX10_pass 23 = .ok (.istore_n 2, 1) := by decide +kernel
theorem dX10_pass_24 : decode cX10_pass 24 = .ok (.iconst 0, 1) := by decide +kernel
theorem dX10_pass_25 : decode cX10_pass 25 = .ok (.istore_n 3, 1) := by decide +kernel
theorem dX10_pass_26 : decode cX10_pass 26 = .ok (.iload_n 3, 1) := by decide +kernel
theorem dX10_pass_27 : decode cX10_pass 27 = .ok (.aload_n 0, 1) := by decide +kernel
theorem dX10_pass_28 : decode cX10_pass 28 = .ok (.getfield 92, 3) := by decide +kernel
theorem dX10_pass_31 : decode cX10_pass 31 = .ok (.if_icmp .ge 64, 3) := by decide +kernel
theorem dX10_pass_34 : decode cX10_pass 34 = .ok (.aload_n 0, 1) := by decide +kernel
theorem dX10_pass_35 : decode cX10_pass 35 = .ok (.getfield 11, 3) := by decide +kernel
theorem dX10_pass_38 : decode cX10_pass 38 = .ok (.iload_n 3, 1) := by decide +kernel
theorem dX10_pass_39 : decode cX10_pass 39 = .ok (.aaload, 1) := by decide +kernel
theorem dX10_pass_40 : decode cX10_pass 40 = .ok (.getfield 102, 3) := by decide +kernel
theorem dX10_pass_43 : decode cX10_pass 43 = .ok (.iconst 4, 1) := by decide +kernel
theorem dX10_pass_44 : decode cX10_pass 44 = .ok (.iaload, 1) := by decide +kernel
theorem dX10_pass_45 : decode cX10_pass 45 = .ok (.iconst 1, 1) := by decide +kernel
theorem dX10_pass_46 : decode cX10_pass 46 = .ok (.if_icmp .ne 43, 3) := by decide +kernel
theorem dX10_pass_49 : decode cX10_pass 49 = .ok (.aload_n 0, 1) := by decide +kernel
theorem dX10_pass_50 : decode cX10_pass 50 = .ok (.getfield 11, 3) := by decide +kernel
theorem dX10_pass_53 : decode cX10_pass 53 = .ok (.iload_n 3, 1) := by decide +kernel
theorem dX10_pass_54 : decode cX10_pass 54 = .ok (.aaload, 1) := by decide +kernel
theorem dX10_pass_55 : decode cX10_pass 55 = .ok (.getfield 102, 3) := by decide +kernel
theorem dX10_pass_58 : decode cX10_pass 58 = .ok (.iconst 5, 1) := by decide +kernel
theorem dX10_pass_59 : decode cX10_pass 59 = .ok (.iaload, 1) := by decide +kernel
theorem dX10_pass_60 : decode cX10_pass 60 = .ok (.aload_n 0, 1) := by decide +kernel
theorem dX10_pass_61 : decode cX10_pass 61 = .ok (.getfield 15, 3) := by decide +kernel
theorem dX10_pass_64 : decode cX10_pass 64 = .ok (.bipush 9, 2) := by decide +kernel
theorem dX10_pass_66 : decode cX10_pass 66 = .ok (.iaload, 1) := by decide +kernel
theorem dX10_pass_67 : decode cX10_pass 67 = .ok (.if_icmp .gt 22, 3) := by decide +kernel
theorem dX10_pass_70 : decode cX10_pass 70 = .ok (.aload_n 0, 1) := by decide +kernel
theorem dX10_pass_71 : decode cX10_pass 71 = .ok (.iload_n 3, 1) := by decide +kernel
theorem dX10_pass_72 : decode cX10_pass 72 = .ok (.aload_n 0, 1) := by decide +kernel
theorem dX10_pass_73 : decode cX10_pass 73 = .ok (.getfield 11, 3) := by decide +kernel
theorem dX10_pass_76 : decode cX10_pass 76 = .ok (.iload_n 3, 1) := by decide +kernel
theorem dX10_pass_77 : decode cX10_pass 77 = .ok (.aaload, 1) := by decide +kernel
theorem dX10_pass_78 : decode cX10_pass 78 = .ok (.getfield 102, 3) := by decide +kernel
theorem dX10_pass_81 : decode cX10_pass 81 = .ok (.iconst 5, 1) := by decide +kernel
theorem dX10_pass_82 : decode cX10_pass 82 = .ok (.iaload, 1) := by decide +kernel
theorem dX10_pass_83 : decode cX10_pass 83 = .ok (.invokevirtual 196, 3) := by decide +kernel
theorem dX10_pass_86 : decode cX10_pass 86 = .ok (.iinc 2 1, 3) := by decide +kernel
theorem dX10_pass_89 : decode cX10_pass 89 = .ok (.iinc 3 1, 3) := by decide +kernel
theorem dX10_pass_92 : decode cX10_pass 92 = .ok (.goto (-66), 3) := by decide +kernel
theorem dX10_pass_95 : decode cX10_pass 95 = .ok (.iload_n 2, 1) := by decide +kernel
theorem dX10_pass_96 : decode cX10_pass 96 = .ok (.ireturn, 1) := by decide +kernel
theorem dX10_comeIn_0 : decode cX10_comeIn 0 = .ok (.aload_n 0, 1) := by decide +kernel
theorem dX10_comeIn_1 : decode cX10_comeIn 1 = .ok (.getfield 15, 3) := by decide +kernel
theorem dX10_comeIn_4 : decode cX10_comeIn 4 = .ok (.bipush 10, 2) := by decide +kernel
theorem dX10_comeIn_6 : decode cX10_comeIn 6 = .ok (.dup2, 1) := by decide +kernel
theorem dX10_comeIn_7 : decode cX10_comeIn 7 = .ok (.iaload, 1) := by decide +kernel
theorem dX10_comeIn_8 : decode cX10_comeIn 8 = .ok (.aload_n 0, 1) := by decide +kernel
theorem dX10_comeIn_9 : decode cX10_comeIn 9 = .ok (.iload_n 1, 1) := by decide +kernel
theorem dX10_comeIn_10 : decode cX10_comeIn 10 = .ok (.iload_n 2, 1) := by decide +kernel
theorem dX10_comeIn_11 : decode cX10_comeIn 11 = .ok (.invokevirtual 118, 3) := by decide +kernel
theorem dX10_comeIn_14 : decode cX10_comeIn 14 = .ok (.iadd, 1) := by decide +kernel
theorem dX10_comeIn_15 : decode cX10_comeIn 15 = .ok (.iastore, 1) := by decide +kernel
theorem dX10_comeIn_16 : decode cX10_comeIn 16 = .ok (.aload_n 0, 1) := by decide +kernel
theorem dX10_comeIn_17 : decode cX10_comeIn 17 = .ok (.getfield 15, 3) := by decide +kernel
theorem dX10_comeIn_20 : decode cX10_comeIn 20 = .ok (.bipush 8, 2) := by decide +kernel
theorem dX10_comeIn_22 : decode cX10_comeIn 22 = .ok (.iconst 0, 1) := by decide +kernel
theorem dX10_comeIn_23 : decode cX10_comeIn 23 = .ok (.aload_n 0, 1) := by decide +kernel
theorem dX10_comeIn_24 : decode cX10_comeIn 24 = .ok (.getfield 15, 3) := by decide +kernel
theorem dX10_comeIn_27 : decode cX10_comeIn 27 = .ok (.bipush 8, 2) := by decide +kernel
theorem dX10_comeIn_29 : decode cX10_comeIn 29 = .ok (.iaload, 1) := by decide +kernel
theorem dX10_comeIn_30 : decode cX10_comeIn 30 = .ok (.iconst 1, 1) := by decide +kernel
theorem dX10_comeIn_31 : decode cX10_comeIn 31 = .ok (.isub, 1) := by decide +kernel
theorem dX10_comeIn_32 : decode cX10_comeIn 32 = .ok (.invokestatic 179, 3) := by decide +kernel
theorem dX10_comeIn_35 : decode cX10_comeIn 35 = .ok (.iastore, 1) := by decide +kernel
theorem dX10_comeIn_36 : decode cX10_comeIn 36 = .ok (.aload_n 0, 1) := by decide +kernel
theorem dX10_comeIn_37 : decode cX10_comeIn 37 = .ok (.getfield 11, 3) := by decide +kernel
theorem dX10_comeIn_40 : decode cX10_comeIn 40 = .ok (.iload_n 1, 1) := by decide +kernel
theorem dX10_comeIn_41 : decode cX10_comeIn 41 = .ok (.aaload, 1) := by decide +kernel
theorem dX10_comeIn_42 : decode cX10_comeIn 42 = .ok (.getfield 102, 3) := by decide +kernel
theorem dX10_comeIn_45 : decode cX10_comeIn 45 = .ok (.iconst 4, 1) := by decide +kernel
theorem dX10_comeIn_46 : decode cX10_comeIn 46 = .ok (.iconst 2, 1) := by decide +kernel
theorem dX10_comeIn_47 : decode cX10_comeIn 47 = .ok (.iastore, 1) := by decide +kernel
theorem dX10_comeIn_48 : decode cX10_comeIn 48 = .ok (.aload_n 0, 1) := by decide +kernel
theorem dX10_comeIn_49 : decode cX10_comeIn 49 = .ok (.getfield 11, 3) := by decide +kernel
theorem dX10_comeIn_52 : decode cX10_comeIn 52 = .ok (.iload_n 1, 1) := by decide +kernel
theorem dX10_comeIn_53 : decode cX10_comeIn 53 = .ok (.aaload, 1) := by decide +kernel
theorem dX10_comeIn_54 : decode cX10_comeIn 54 = .ok (.getfield 102, 3) := by decide +kernel
theorem dX10_comeIn_57 : decode cX10_comeIn 57 = .ok (.iconst 5, 1) := by decide +kernel
theorem dX10_comeIn_58 : decode cX10_comeIn 58 = .ok (.iload_n 2, 1) := by decide +kernel
theorem dX10_comeIn_59 : decode cX10_comeIn 59 = .ok (.iastore, 1) := by decide +kernel
theorem dX10_comeIn_60 : decode cX10_comeIn 60 = .ok (.return_, 1) := by decide +kernel
theorem dX10_owed_0 : decode cX10_owed 0 = .ok (.aload_n 0, 1) := by decide +kernel
theorem dX10_owed_1 : decode cX10_owed 1 = .ok (.iload_n 1, 1) := by decide +kernel
theorem dX10_owed_2 : decode cX10_owed 2 = .ok (.aload_n 0, 1) := by decide +kernel
theorem dX10_owed_3 : decode cX10_owed 3 = .ok (.getfield 11, 3) := by decide +kernel
theorem dX10_owed_6 : decode cX10_owed 6 = .ok (.iload_n 1, 1) := by decide +kernel
theorem dX10_owed_7 : decode cX10_owed 7 = .ok (.aaload, 1) := by decide +kernel
theorem dX10_owed_8 : decode cX10_owed 8 = .ok (.getfield 102, 3) := by decide +kernel
theorem dX10_owed_11 : decode cX10_owed 11 = .ok (.iconst 0, 1) := by decide +kernel
theorem dX10_owed_12 : decode cX10_owed 12 = .ok (.iaload, 1) := by decide +kernel
theorem dX10_owed_13 : decode cX10_owed 13 = .ok (.iload_n 2, 1) := by decide +kernel
theorem dX10_owed_14 : decode cX10_owed 14 = .ok (.aload_n 0, 1) := by decide +kernel
theorem dX10_owed_15 : decode cX10_owed 15 = .ok (.getfield 15, 3) := by decide +kernel
theorem dX10_owed_18 : decode cX10_owed 18 = .ok (.iconst 5, 1) := by decide +kernel
theorem dX10_owed_19 : decode cX10_owed 19 = .ok (.iaload, 1) := by decide +kernel
theorem dX10_owed_20 : decode cX10_owed 20 = .ok (.invokevirtual 182, 3) := by decide +kernel
theorem dX10_owed_23 : decode cX10_owed 23 = .ok (.iconst 0, 1) := by decide +kernel
theorem dX10_owed_24 : decode cX10_owed 24 = .ok (.bipush 99, 2) := by decide +kernel
theorem dX10_owed_26 : decode cX10_owed 26 = .ok (.aload_n 0, 1) := by decide +kernel
theorem dX10_owed_27 : decode cX10_owed 27 = .ok (.invokevirtual 186, 3) := by decide +kernel
theorem dX10_owed_30 : decode cX10_owed 30 = .ok (.iconst 0, 1) := by decide +kernel
theorem dX10_owed_31 : decode cX10_owed 31 = .ok (.aload_n 0, 1) := by decide +kernel
theorem dX10_owed_32 : decode cX10_owed 32 = .ok (.getfield 39, 3) := by decide +kernel
theorem dX10_owed_35 : decode cX10_owed 35 = .ok (.invokevirtual 189, 3) := by decide +kernel
theorem dX10_owed_38 : decode cX10_owed 38 = .ok (.invokestatic 193, 3) := by decide +kernel
theorem dX10_owed_41 : decode cX10_owed 41 = .ok (.invokestatic 179, 3) := by decide +kernel
theorem dX10_owed_44 : decode cX10_owed 44 = .ok (.istore_n 3, 1) := by decide +kernel
theorem dX10_owed_45 : decode cX10_owed 45 = .ok (.aload_n 0, 1) := by decide +kernel
theorem dX10_owed_46 : decode cX10_owed 46 = .ok (.getfield 11, 3) := by decide +kernel
theorem dX10_owed_49 : decode cX10_owed 49 = .ok (.iload_n 1, 1) := by decide +kernel
theorem dX10_owed_50 : decode cX10_owed 50 = .ok (.aaload, 1) := by decide +kernel
theorem dX10_owed_51 : decode cX10_owed 51 = .ok (.iconst 0, 1) := by decide +kernel
theorem dX10_owed_52 : decode cX10_owed 52 = .ok (.iload_n 2, 1) := by decide +kernel
theorem dX10_owed_53 : decode cX10_owed 53 = .ok (.aload_n 0, 1) := by decide +kernel
theorem dX10_owed_54 : decode cX10_owed 54 = .ok (.getfield 11, 3) := by decide +kernel
theorem dX10_owed_57 : decode cX10_owed 57 = .ok (.iload_n 1, 1) := by decide +kernel
theorem dX10_owed_58 : decode cX10_owed 58 = .ok (.aaload, 1) := by decide +kernel
theorem dX10_owed_59 : decode cX10_owed 59 = .ok (.invokevirtual 152, 3) := by decide +kernel
theorem dX10_owed_62 : decode cX10_owed 62 = .ok (.isub, 1) := by decide +kernel
theorem dX10_owed_63 : decode cX10_owed 63 = .ok (.invokestatic 179, 3) := by decide +kernel
theorem dX10_owed_66 : decode cX10_owed 66 = .ok (.iload_n 3, 1) := by decide +kernel
theorem dX10_owed_67 : decode cX10_owed 67 = .ok (.invokevirtual 199, 3) := by decide +kernel
theorem dX10_owed_70 : decode cX10_owed 70 = .ok (.ireturn, 1) := by decide +kernel
theorem dX10_fetch_0 : decode cX10_fetch 0 = .ok (.aload_n 0, 1) := by decide +kernel
theorem dX10_fetch_1 : decode cX10_fetch 1 = .ok (.iload_n 1, 1) := by decide +kernel
theorem dX10_fetch_2 : decode cX10_fetch 2 = .ok (.invokevirtual 202, 3) := by decide +kernel
theorem dX10_fetch_5 : decode cX10_fetch 5 = .ok (.ifCond .eq 13, 3) := by decide +kernel
theorem dX10_fetch_8 : decode cX10_fetch 8 = .ok (.iload_n 2, 1) := by decide +kernel
theorem dX10_fetch_9 : decode cX10_fetch 9 = .ok (.ifCond .lt 9, 3) := by decide +kernel
theorem dX10_fetch_12 : decode cX10_fetch 12 = .ok (.iload_n 2, 1) := by decide +kernel
theorem dX10_fetch_13 : decode cX10_fetch 13 = .ok (.bipush 7, 2) := by decide +kernel
theorem dX10_fetch_15 : decode cX10_fetch 15 = .ok (.if_icmp .le 6, 3) := by decide +kernel
theorem dX10_fetch_18 : decode cX10_fetch 18 = .ok (.bipush (-2), 2) := by decide +kernel
theorem dX10_fetch_20 : decode cX10_fetch 20 = .ok (.ireturn, 1) := by decide +kernel
theorem dX10_fetch_21 : decode cX10_fetch 21 = .ok (.aload_n 0, 1) := by decide +kernel
theorem dX10_fetch_22 : decode cX10_fetch 22 = .ok (.invokevirtual 205, 3) := by decide +kernel
theorem dX10_fetch_25 : decode cX10_fetch 25 = .ok (.iload_n 2, 1) := by decide +kernel
theorem dX10_fetch_26 : decode cX10_fetch 26 = .ok (.ifCond .ne 14, 3) := by decide +kernel
theorem dX10_fetch_29 : decode cX10_fetch 29 = .ok (.aload_n 0, 1) := by decide +kernel
theorem dX10_fetch_30 : decode cX10_fetch 30 = .ok (.getfield 45, 3) := by decide +kernel
theorem dX10_fetch_33 : decode cX10_fetch 33 = .ok (.iload_n 1, 1) := by decide +kernel
theorem dX10_fetch_34 : decode cX10_fetch 34 = .ok (.invokevirtual 208, 3) := by decide +kernel
theorem dX10_fetch_37 : decode cX10_fetch 37 = .ok (.goto 12, 3) := by decide +kernel
theorem dX10_fetch_40 : decode cX10_fetch 40 = .ok (.aload_n 0, 1) := by decide +kernel
theorem dX10_fetch_41 : decode cX10_fetch 41 = .ok (.getfield 45, 3) := by decide +kernel
theorem dX10_fetch_44 : decode cX10_fetch 44 = .ok (.iload_n 1, 1) := by decide +kernel
theorem dX10_fetch_45 : decode cX10_fetch 45 = .ok (.iload_n 2, 1) := by decide +kernel
theorem dX10_fetch_46 : decode cX10_fetch 46 = .ok (.invokevirtual 211, 3) := by decide +kernel
theorem dX10_fetch_49 : decode cX10_fetch 49 = .ok (.ireturn, 1) := by decide +kernel
theorem dX10_launch_0 : decode cX10_launch 0 = .ok (.aload_n 0, 1) := by decide +kernel
theorem dX10_launch_1 : decode cX10_launch 1 = .ok (.iload_n 1, 1) := by decide +kernel
theorem dX10_launch_2 : decode cX10_launch 2 = .ok (.invokevirtual 202, 3) := by decide +kernel
theorem dX10_launch_5 : decode cX10_launch 5 = .ok (.ifCond .ne 6, 3) := by decide +kernel
theorem dX10_launch_8 : decode cX10_launch 8 = .ok (.bipush (-2), 2) := by decide +kernel
theorem dX10_launch_10 : decode cX10_launch 10 = .ok (.ireturn, 1) := by decide +kernel
theorem dX10_launch_11 : decode cX10_launch 11 = .ok (.aload_n 0, 1) := by decide +kernel
theorem dX10_launch_12 : decode cX10_launch 12 = .ok (.invokevirtual 205, 3) := by decide +kernel
theorem dX10_launch_15 : decode cX10_launch 15 = .ok (.aload_n 0, 1) := by decide +kernel
theorem dX10_launch_16 : decode cX10_launch 16 = .ok (.getfield 45, 3) := by decide +kernel
theorem dX10_launch_19 : decode cX10_launch 19 = .ok (.iload_n 1, 1) := by decide +kernel
theorem dX10_launch_20 : decode cX10_launch 20 = .ok (.invokevirtual 208, 3) := by decide +kernel
theorem dX10_launch_23 : decode cX10_launch 23 = .ok (.istore_n 2, 1) := by decide +kernel
theorem dX10_launch_24 : decode cX10_launch 24 = .ok (.aload_n 0, 1) := by decide +kernel
theorem dX10_launch_25 : decode cX10_launch 25 = .ok (.iload_n 2, 1) := by decide +kernel
theorem dX10_launch_26 : decode cX10_launch 26 = .ok (.invokevirtual 169, 3) := by decide +kernel
theorem dX10_launch_29 : decode cX10_launch 29 = .ok (.pop, 1) := by decide +kernel
theorem dX10_launch_30 : decode cX10_launch 30 = .ok (.iconst 0, 1) := by decide +kernel
theorem dX10_launch_31 : decode cX10_launch 31 = .ok (.istore_n 3, 1) := by decide +kernel
theorem dX10_launch_32 : decode cX10_launch 32 = .ok (.iload_n 3, 1) := by decide +kernel
theorem dX10_launch_33 : decode cX10_launch 33 = .ok (.aload_n 0, 1) := by decide +kernel
theorem dX10_launch_34 : decode cX10_launch 34 = .ok (.getfield 92, 3) := by decide +kernel
theorem dX10_launch_37 : decode cX10_launch 37 = .ok (.if_icmp .ge 30, 3) := by decide +kernel
theorem dX10_launch_40 : decode cX10_launch 40 = .ok (.iload_n 1, 1) := by decide +kernel
theorem dX10_launch_41 : decode cX10_launch 41 = .ok (.iload_n 3, 1) := by decide +kernel
theorem dX10_launch_42 : decode cX10_launch 42 = .ok (.ishr, 1) := by decide +kernel
theorem dX10_launch_43 : decode cX10_launch 43 = .ok (.iconst 1, 1) := by decide +kernel
theorem dX10_launch_44 : decode cX10_launch 44 = .ok (.iand, 1) := by decide +kernel
theorem dX10_launch_45 : decode cX10_launch 45 = .ok (.iconst 1, 1) := by decide +kernel
theorem dX10_launch_46 : decode cX10_launch 46 = .ok (.if_icmp .ne 15, 3) := by decide +kernel
theorem dX10_launch_49 : decode cX10_launch 49 = .ok (.aload_n 0, 1) := by decide +kernel
theorem dX10_launch_50 : decode cX10_launch 50 = .ok (.iload_n 3, 1) := by decide +kernel
theorem dX10_launch_51 : decode cX10_launch 51 = .ok (.aload_n 0, 1) := by decide +kernel
theorem dX10_launch_52 : decode cX10_launch 52 = .ok (.getfield 15, 3) := by decide +kernel
theorem dX10_launch_55 : decode cX10_launch 55 = .ok (.bipush 9, 2) := by decide +kernel
theorem dX10_launch_57 : decode cX10_launch 57 = .ok (.iaload, 1) := by decide +kernel
theorem dX10_launch_58 : decode cX10_launch 58 = .ok (.invokevirtual 196, 3) := by decide +kernel
theorem dX10_launch_61 : decode cX10_launch 61 = .ok (.iinc 3 1, 3) := by decide +kernel
theorem dX10_launch_64 : decode cX10_launch 64 = .ok (.goto (-32), 3) := by decide +kernel
theorem dX10_launch_67 : decode cX10_launch 67 = .ok (.iload_n 2, 1) := by decide +kernel
theorem dX10_launch_68 : decode cX10_launch 68 = .ok (.ireturn, 1) := by decide +kernel
theorem dX10_one_0 : decode cX10_one 0 = .ok (.iload_n 1, 1) := by decide +kernel
theorem dX10_one_1 : decode cX10_one 1 = .ok (.ifCond .lt 8, 3) := by decide +kernel
theorem dX10_one_4 : decode cX10_one 4 = .ok (.iload_n 1, 1) := by decide +kernel
theorem dX10_one_5 : decode cX10_one 5 = .ok (.iconst 1, 1) := by decide +kernel
theorem dX10_one_6 : decode cX10_one 6 = .ok (.if_icmp .le 6, 3) := by decide +kernel
theorem dX10_one_9 : decode cX10_one 9 = .ok (.bipush (-2), 2) := by decide +kernel
theorem dX10_one_11 : decode cX10_one 11 = .ok (.ireturn, 1) := by decide +kernel
theorem dX10_one_12 : decode cX10_one 12 = .ok (.aload_n 0, 1) := by decide +kernel
theorem dX10_one_13 : decode cX10_one 13 = .ok (.invokevirtual 205, 3) := by decide +kernel
theorem dX10_one_16 : decode cX10_one 16 = .ok (.iconst (-1), 1) := by decide +kernel
theorem dX10_one_17 : decode cX10_one 17 = .ok (.istore_n 2, 1) := by decide +kernel
theorem dX10_one_18 : decode cX10_one 18 = .ok (.iconst 0, 1) := by decide +kernel
theorem dX10_one_19 : decode cX10_one 19 = .ok (.istore_n 3, 1) := by decide +kernel
theorem dX10_one_20 : decode cX10_one 20 = .ok (.iconst 0, 1) := by decide +kernel
theorem dX10_one_21 : decode cX10_one 21 = .ok (.istore 4, 2) := by decide +kernel
theorem dX10_one_23 : decode cX10_one 23 = .ok (.iload 4, 2) := by decide +kernel
theorem dX10_one_25 : decode cX10_one 25 = .ok (.aload_n 0, 1) := by decide +kernel
theorem dX10_one_26 : decode cX10_one 26 = .ok (.getfield 92, 3) := by decide +kernel
theorem dX10_one_29 : decode cX10_one 29 = .ok (.if_icmp .ge 58, 3) := by decide +kernel
theorem dX10_one_32 : decode cX10_one 32 = .ok (.aload_n 0, 1) := by decide +kernel
theorem dX10_one_33 : decode cX10_one 33 = .ok (.iload 4, 2) := by decide +kernel
theorem dX10_one_35 : decode cX10_one 35 = .ok (.invokevirtual 163, 3) := by decide +kernel
theorem dX10_one_38 : decode cX10_one 38 = .ok (.ifCond .eq 17, 3) := by decide +kernel
theorem dX10_one_41 : decode cX10_one 41 = .ok (.aload_n 0, 1) := by decide +kernel
theorem dX10_one_42 : decode cX10_one 42 = .ok (.getfield 45, 3) := by decide +kernel
theorem dX10_one_45 : decode cX10_one 45 = .ok (.iconst 1, 1) := by decide +kernel
theorem dX10_one_46 : decode cX10_one 46 = .ok (.iload 4, 2) := by decide +kernel
theorem dX10_one_48 : decode cX10_one 48 = .ok (.ishl, 1) := by decide +kernel
theorem dX10_one_49 : decode cX10_one 49 = .ok (.invokevirtual 208, 3) := by decide +kernel
theorem dX10_one_52 : decode cX10_one 52 = .ok (.goto 4, 3) := by decide +kernel
theorem dX10_one_55 : decode cX10_one 55 = .ok (.iconst (-1), 1) := by decide +kernel
theorem dX10_one_56 : decode cX10_one 56 = .ok (.istore 5, 2) := by decide +kernel
theorem dX10_one_58 : decode cX10_one 58 = .ok (.iload 5, 2) := by decide +kernel
theorem dX10_one_60 : decode cX10_one 60 = .ok (.iconst (-1), 1) := by decide +kernel
theorem dX10_one_61 : decode cX10_one 61 = .ok (.if_icmp .eq 20, 3) := by decide +kernel
theorem dX10_one_64 : decode cX10_one 64 = .ok (.iload_n 2, 1) := by decide +kernel
theorem dX10_one_65 : decode cX10_one 65 = .ok (.iconst (-1), 1) := by decide +kernel
theorem dX10_one_66 : decode cX10_one 66 = .ok (.if_icmp .eq 9, 3) := by decide +kernel
theorem dX10_one_69 : decode cX10_one 69 = .ok (.iload 5, 2) := by decide +kernel
theorem dX10_one_71 : decode cX10_one 71 = .ok (.iload_n 3, 1) := by decide +kernel
theorem dX10_one_72 : decode cX10_one 72 = .ok (.if_icmp .ge 9, 3) := by decide +kernel
theorem dX10_one_75 : decode cX10_one 75 = .ok (.iload 4, 2) := by decide +kernel
theorem dX10_one_77 : decode cX10_one 77 = .ok (.istore_n 2, 1) := by decide +kernel
theorem dX10_one_78 : decode cX10_one 78 = .ok (.iload 5, 2) := by decide +kernel
theorem dX10_one_80 : decode cX10_one 80 = .ok (.istore_n 3, 1) := by decide +kernel
theorem dX10_one_81 : decode cX10_one 81 = .ok (.iinc 4 1, 3) := by decide +kernel
theorem dX10_one_84 : decode cX10_one 84 = .ok (.goto (-61), 3) := by decide +kernel
theorem dX10_one_87 : decode cX10_one 87 = .ok (.iload_n 1, 1) := by decide +kernel
theorem dX10_one_88 : decode cX10_one 88 = .ok (.ifCond .ne 7, 3) := by decide +kernel
theorem dX10_one_91 : decode cX10_one 91 = .ok (.iload_n 2, 1) := by decide +kernel
theorem dX10_one_92 : decode cX10_one 92 = .ok (.goto 4, 3) := by decide +kernel
theorem dX10_one_95 : decode cX10_one 95 = .ok (.iload_n 3, 1) := by decide +kernel
theorem dX10_one_96 : decode cX10_one 96 = .ok (.ireturn, 1) := by decide +kernel
theorem dX10_thunder_0 : decode cX10_thunder 0 = .ok (.iload_n 1, 1) := by decide +kernel
theorem dX10_thunder_1 : decode cX10_thunder 1 = .ok (.ifCond .lt 19, 3) := by decide +kernel
theorem dX10_thunder_4 : decode cX10_thunder 4 = .ok (.iload_n 1, 1) := by decide +kernel
theorem dX10_thunder_5 : decode cX10_thunder 5 = .ok (.sipush 240, 3) := by decide +kernel
theorem dX10_thunder_8 : decode cX10_thunder 8 = .ok (.if_icmp .gt 12, 3) := by decide +kernel
theorem dX10_thunder_11 : decode cX10_thunder 11 = .ok (.iload_n 2, 1) := by decide +kernel
theorem dX10_thunder_12 : decode cX10_thunder 12 = .ok (.ifCond .lt 8, 3) := by decide +kernel
theorem dX10_thunder_15 : decode cX10_thunder 15 = .ok (.iload_n 2, 1) := by decide +kernel
theorem dX10_thunder_16 : decode cX10_thunder 16 = .ok (.iconst 1, 1) := by decide +kernel
theorem dX10_thunder_17 : decode cX10_thunder 17 = .ok (.if_icmp .le 6, 3) := by decide +kernel
theorem dX10_thunder_20 : decode cX10_thunder 20 = .ok (.bipush (-2), 2) := by decide +kernel
theorem dX10_thunder_22 : decode cX10_thunder 22 = .ok (.ireturn, 1) := by decide +kernel
theorem dX10_thunder_23 : decode cX10_thunder 23 = .ok (.iload_n 2, 1) := by decide +kernel
theorem dX10_thunder_24 : decode cX10_thunder 24 = .ok (.ifCond .ne 19, 3) := by decide +kernel
theorem dX10_thunder_27 : decode cX10_thunder 27 = .ok (.aload_n 0, 1) := by decide +kernel
theorem dX10_thunder_28 : decode cX10_thunder 28 = .ok (.aload_n 0, 1) := by decide +kernel
theorem dX10_thunder_29 : decode cX10_thunder 29 = .ok (.getfield 15, 3) := by decide +kernel
theorem dX10_thunder_32 : decode cX10_thunder 32 = .ok (.bipush 9, 2) := by decide +kernel
theorem dX10_thunder_34 : decode cX10_thunder 34 = .ok (.iaload, 1) := by decide +kernel
theorem dX10_thunder_35 : decode cX10_thunder 35 = .ok (.iload_n 1, 1) := by decide +kernel
theorem dX10_thunder_36 : decode cX10_thunder 36 = .ok (.iadd, 1) := by decide +kernel
theorem dX10_thunder_37 : decode cX10_thunder 37 = .ok (.invokevirtual 214, 3) := by decide +kernel
theorem dX10_thunder_40 : decode cX10_thunder 40 = .ok (.goto 12, 3) := by decide +kernel
theorem dX10_thunder_43 : decode cX10_thunder 43 = .ok (.aload_n 0, 1) := by decide +kernel
theorem dX10_thunder_44 : decode cX10_thunder 44 = .ok (.aload_n 0, 1) := by decide +kernel
theorem dX10_thunder_45 : decode cX10_thunder 45 = .ok (.invokevirtual 217, 3) := by decide +kernel
theorem dX10_thunder_48 : decode cX10_thunder 48 = .ok (.iload_n 1, 1) := by decide +kernel
theorem dX10_thunder_49 : decode cX10_thunder 49 = .ok (.invokevirtual 220, 3) := by decide +kernel
theorem dX10_thunder_52 : decode cX10_thunder 52 = .ok (.ireturn, 1) := by decide +kernel
theorem dX10_stand_0 : decode cX10_stand 0 = .ok (.aload_n 0, 1) := by decide +kernel
theorem dX10_stand_1 : decode cX10_stand 1 = .ok (.invokevirtual 223, 3) := by decide +kernel
theorem dX10_stand_4 : decode cX10_stand 4 = .ok (.istore_n 1, 1) := by decide +kernel
theorem dX10_stand_5 : decode cX10_stand 5 = .ok (.iconst 0, 1) := by decide +kernel
theorem dX10_stand_6 : decode cX10_stand 6 = .ok (.istore_n 2, 1) := by decide +kernel
theorem dX10_stand_7 : decode cX10_stand 7 = .ok (.iconst 0, 1) := by decide +kernel
theorem dX10_stand_8 : decode cX10_stand 8 = .ok (.istore_n 3, 1) := by decide +kernel
theorem dX10_stand_9 : decode cX10_stand 9 = .ok (.iload_n 3, 1) := by decide +kernel
theorem dX10_stand_10 : decode cX10_stand 10 = .ok (.aload_n 0, 1) := by decide +kernel
theorem dX10_stand_11 : decode cX10_stand 11 = .ok (.getfield 15, 3) := by decide +kernel
theorem dX10_stand_14 : decode cX10_stand 14 = .ok (.bipush 8, 2) := by decide +kernel
theorem dX10_stand_16 : decode cX10_stand 16 = .ok (.iaload, 1) := by decide +kernel
theorem dX10_stand_17 : decode cX10_stand 17 = .ok (.if_icmp .ge 37, 3) := by decide +kernel
theorem dX10_stand_20 : decode cX10_stand 20 = .ok (.iload_n 2, 1) := by decide +kernel
theorem dX10_stand_21 : decode cX10_stand 21 = .ok (.iload_n 3, 1) := by decide +kernel
theorem dX10_stand_22 : decode cX10_stand 22 = .ok (.iload_n 1, 1) := by decide +kernel
theorem dX10_stand_23 : decode cX10_stand 23 = .ok (.if_icmp .ge 20, 3) := by decide +kernel
theorem dX10_stand_26 : decode cX10_stand 26 = .ok (.aload_n 0, 1) := by decide +kernel
theorem dX10_stand_27 : decode cX10_stand 27 = .ok (.getfield 49, 3) := by decide +kernel
theorem dX10_stand_30 : decode cX10_stand 30 = .ok (.iload_n 3, 1) := by decide +kernel
theorem dX10_stand_31 : decode cX10_stand 31 = .ok (.iaload, 1) := by decide +kernel
theorem dX10_stand_32 : decode cX10_stand 32 = .ok (.aload_n 0, 1) := by decide +kernel
theorem dX10_stand_33 : decode cX10_stand 33 = .ok (.getfield 15, 3) := by decide +kernel
theorem dX10_stand_36 : decode cX10_stand 36 = .ok (.bipush 9, 2) := by decide +kernel
theorem dX10_stand_38 : decode cX10_stand 38 = .ok (.iaload, 1) := by decide +kernel
theorem dX10_stand_39 : decode cX10_stand 39 = .ok (.isub, 1) := by decide +kernel
theorem dX10_stand_40 : decode cX10_stand 40 = .ok (.goto 6, 3) := by decide +kernel
theorem dX10_stand_43 : decode cX10_stand 43 = .ok (.sipush 240, 3) := by decide +kernel
theorem dX10_stand_46 : decode cX10_stand 46 = .ok (.iadd, 1) := by decide +kernel
theorem dX10_stand_47 : decode cX10_stand 47 = .ok (.istore_n 2, 1) := by decide +kernel
theorem dX10_stand_48 : decode cX10_stand 48 = .ok (.iinc 3 1, 3) := by decide +kernel
theorem dX10_stand_51 : decode cX10_stand 51 = .ok (.goto (-42), 3) := by decide +kernel
theorem dX10_stand_54 : decode cX10_stand 54 = .ok (.iload_n 2, 1) := by decide +kernel
theorem dX10_stand_55 : decode cX10_stand 55 = .ok (.ireturn, 1) := by decide +kernel
theorem dX10_heard_0 : decode cX10_heard 0 = .ok (.iload_n 1, 1) := by decide +kernel
theorem dX10_heard_1 : decode cX10_heard 1 = .ok (.invokestatic 226, 3) := by decide +kernel
theorem dX10_heard_4 : decode cX10_heard 4 = .ok (.ifCond .ne 6, 3) := by decide +kernel
theorem dX10_heard_7 : decode cX10_heard 7 = .ok (.bipush (-2), 2) := by decide +kernel
theorem dX10_heard_9 : decode cX10_heard 9 = .ok (.ireturn, 1) := by decide +kernel
theorem dX10_heard_10 : decode cX10_heard 10 = .ok (.aload_n 0, 1) := by decide +kernel
theorem dX10_heard_11 : decode cX10_heard 11 = .ok (.getfield 54, 3) := by decide +kernel
theorem dX10_heard_14 : decode cX10_heard 14 = .ok (.iload_n 1, 1) := by decide +kernel
theorem dX10_heard_15 : decode cX10_heard 15 = .ok (.aaload, 1) := by decide +kernel
theorem dX10_heard_16 : decode cX10_heard 16 = .ok (.astore_n 2, 1) := by decide +kernel
theorem dX10_heard_17 : decode cX10_heard 17 = .ok (.aload_n 2, 1) := by decide +kernel
theorem dX10_heard_18 : decode cX10_heard 18 = .ok (.invokevirtual 229, 3) := by decide +kernel
theorem dX10_heard_21 : decode cX10_heard 21 = .ok (.ifCond .eq 6, 3) := by decide +kernel
theorem dX10_heard_24 : decode cX10_heard 24 = .ok (.bipush (-11), 2) := by decide +kernel
theorem dX10_heard_26 : decode cX10_heard 26 = .ok (.ireturn, 1) := by decide +kernel
theorem dX10_heard_27 : decode cX10_heard 27 = .ok (.aload_n 2, 1) := by decide +kernel
theorem dX10_heard_28 : decode cX10_heard 28 = .ok (.getfield 233, 3) := by decide +kernel
theorem dX10_heard_31 : decode cX10_heard 31 = .ok (.iconst 2, 1) := by decide +kernel
theorem dX10_heard_32 : decode cX10_heard 32 = .ok (.irem, 1) := by decide +kernel
theorem dX10_heard_33 : decode cX10_heard 33 = .ok (.ifCond .eq 6, 3) := by decide +kernel
theorem dX10_heard_36 : decode cX10_heard 36 = .ok (.bipush (-2), 2) := by decide +kernel
theorem dX10_heard_38 : decode cX10_heard 38 = .ok (.ireturn, 1) := by decide +kernel
theorem dX10_heard_39 : decode cX10_heard 39 = .ok (.iconst 0, 1) := by decide +kernel
theorem dX10_heard_40 : decode cX10_heard 40 = .ok (.istore_n 3, 1) := by decide +kernel
theorem dX10_heard_41 : decode cX10_heard 41 = .ok (.iload_n 3, 1) := by decide +kernel
theorem dX10_heard_42 : decode cX10_heard 42 = .ok (.aload_n 2, 1) := by decide +kernel
theorem dX10_heard_43 : decode cX10_heard 43 = .ok (.getfield 233, 3) := by decide +kernel
theorem dX10_heard_46 : decode cX10_heard 46 = .ok (.iconst 2, 1) := by decide +kernel
theorem dX10_heard_47 : decode cX10_heard 47 = .ok (.idiv, 1) := by decide +kernel
theorem dX10_heard_48 : decode cX10_heard 48 = .ok (.if_icmp .ge 34, 3) := by decide +kernel
theorem dX10_heard_51 : decode cX10_heard 51 = .ok (.aload_n 0, 1) := by decide +kernel
theorem dX10_heard_52 : decode cX10_heard 52 = .ok (.aload_n 2, 1) := by decide +kernel
theorem dX10_heard_53 : decode cX10_heard 53 = .ok (.iconst 2, 1) := by decide +kernel
theorem dX10_heard_54 : decode cX10_heard 54 = .ok (.iload_n 3, 1) := by decide +kernel
theorem dX10_heard_55 : decode cX10_heard 55 = .ok (.imul, 1) := by decide +kernel
theorem dX10_heard_56 : decode cX10_heard 56 = .ok (.invokevirtual 234, 3) := by decide +kernel
theorem dX10_heard_59 : decode cX10_heard 59 = .ok (.aload_n 2, 1) := by decide +kernel
theorem dX10_heard_60 : decode cX10_heard 60 = .ok (.iconst 2, 1) := by decide +kernel
theorem dX10_heard_61 : decode cX10_heard 61 = .ok (.iload_n 3, 1) := by decide +kernel
theorem dX10_heard_62 : decode cX10_heard 62 = .ok (.imul, 1) := by decide +kernel
theorem dX10_heard_63 : decode cX10_heard 63 = .ok (.iconst 1, 1) := by decide +kernel
theorem dX10_heard_64 : decode cX10_heard 64 = .ok (.iadd, 1) := by decide +kernel
theorem dX10_heard_65 : decode cX10_heard 65 = .ok (.invokevirtual 234, 3) := by decide +kernel
theorem dX10_heard_68 : decode cX10_heard 68 = .ok (.invokevirtual 237, 3) := by decide +kernel
theorem dX10_heard_71 : decode cX10_heard 71 = .ok (.ifCond .ne 5, 3) := by decide +kernel
theorem dX10_heard_74 : decode cX10_heard 74 = .ok (.iload_n 3, 1) := by decide +kernel
theorem dX10_heard_75 : decode cX10_heard 75 = .ok (.ireturn, 1) := by decide +kernel
theorem dX10_heard_76 : decode cX10_heard 76 = .ok (.iinc 3 1, 3) := by decide +kernel
theorem dX10_heard_79 : decode cX10_heard 79 = .ok (.goto (-38), 3) := by decide +kernel
theorem dX10_heard_82 : decode cX10_heard 82 = .ok (.iconst (-1), 1) := by decide +kernel
theorem dX10_heard_83 : decode cX10_heard 83 = .ok (.ireturn, 1) := by decide +kernel
theorem dX10_where_0 : decode cX10_where 0 = .ok (.aload_n 0, 1) := by decide +kernel
theorem dX10_where_1 : decode cX10_where 1 = .ok (.iload_n 1, 1) := by decide +kernel
theorem dX10_where_2 : decode cX10_where 2 = .ok (.invokevirtual 99, 3) := by decide +kernel
theorem dX10_where_5 : decode cX10_where 5 = .ok (.ifCond .eq 13, 3) := by decide +kernel
theorem dX10_where_8 : decode cX10_where 8 = .ok (.iload_n 2, 1) := by decide +kernel
theorem dX10_where_9 : decode cX10_where 9 = .ok (.ifCond .lt 9, 3) := by decide +kernel
theorem dX10_where_12 : decode cX10_where 12 = .ok (.iload_n 2, 1) := by decide +kernel
theorem dX10_where_13 : decode cX10_where 13 = .ok (.bipush 6, 2) := by decide +kernel
theorem dX10_where_15 : decode cX10_where 15 = .ok (.if_icmp .lt 6, 3) := by decide +kernel
theorem dX10_where_18 : decode cX10_where 18 = .ok (.bipush (-2), 2) := by decide +kernel
theorem dX10_where_20 : decode cX10_where 20 = .ok (.ireturn, 1) := by decide +kernel
theorem dX10_where_21 : decode cX10_where 21 = .ok (.iconst 0, 1) := by decide +kernel
theorem dX10_where_22 : decode cX10_where 22 = .ok (.istore_n 3, 1) := by decide +kernel
theorem dX10_where_23 : decode cX10_where 23 = .ok (.iconst 0, 1) := by decide +kernel
theorem dX10_where_24 : decode cX10_where 24 = .ok (.istore 4, 2) := by decide +kernel
theorem dX10_where_26 : decode cX10_where 26 = .ok (.iload 4, 2) := by decide +kernel
theorem dX10_where_28 : decode cX10_where 28 = .ok (.bipush 8, 2) := by decide +kernel
theorem dX10_where_30 : decode cX10_where 30 = .ok (.if_icmp .ge 44, 3) := by decide +kernel
theorem dX10_where_33 : decode cX10_where 33 = .ok (.aload_n 0, 1) := by decide +kernel
theorem dX10_where_34 : decode cX10_where 34 = .ok (.iload_n 1, 1) := by decide +kernel
theorem dX10_where_35 : decode cX10_where 35 = .ok (.bipush 8, 2) := by decide +kernel
theorem dX10_where_37 : decode cX10_where 37 = .ok (.iload_n 2, 1) := by decide +kernel
theorem dX10_where_38 : decode cX10_where 38 = .ok (.imul, 1) := by decide +kernel
theorem dX10_where_39 : decode cX10_where 39 = .ok (.iload 4, 2) := by decide +kernel
