theorem dX11_onTheLake_18 : decode cX11_onTheLake 18 = .ok (.iload_n 2, 1) := by decide +kernel
theorem dX11_onTheLake_19 : decode cX11_onTheLake 19 = .ok (.aload_n 0, 1) := by decide +kernel
theorem dX11_onTheLake_20 : decode cX11_onTheLake 20 = .ok (.getfield 99, 3) := by decide +kernel
theorem dX11_onTheLake_23 : decode cX11_onTheLake 23 = .ok (.if_icmp .ge 29, 3) := by decide +kernel
theorem dX11_onTheLake_26 : decode cX11_onTheLake 26 = .ok (.iload_n 1, 1) := by decide +kernel
theorem dX11_onTheLake_27 : decode cX11_onTheLake 27 = .ok (.iload_n 2, 1) := by decide +kernel
theorem dX11_onTheLake_28 : decode cX11_onTheLake 28 = .ok (.ishr, 1) := by decide +kernel
theorem dX11_onTheLake_29 : decode cX11_onTheLake 29 = .ok (.iconst 1, 1) := by decide +kernel
theorem dX11_onTheLake_30 : decode cX11_onTheLake 30 = .ok (.iand, 1) := by decide +kernel
theorem dX11_onTheLake_31 : decode cX11_onTheLake 31 = .ok (.iconst 1, 1) := by decide +kernel
theorem dX11_onTheLake_32 : decode cX11_onTheLake 32 = .ok (.if_icmp .ne 14, 3) := by decide +kernel
theorem dX11_onTheLake_35 : decode cX11_onTheLake 35 = .ok (.aload_n 0, 1) := by decide +kernel
theorem dX11_onTheLake_36 : decode cX11_onTheLake 36 = .ok (.getfield 25, 3) := by decide +kernel
theorem dX11_onTheLake_39 : decode cX11_onTheLake 39 = .ok (.iload_n 2, 1) := by decide +kernel
theorem dX11_onTheLake_40 : decode cX11_onTheLake 40 = .ok (.iaload, 1) := by decide +kernel
theorem dX11_onTheLake_41 : decode cX11_onTheLake 41 = .ok (.ifCond .eq 5, 3) := by decide +kernel
theorem dX11_onTheLake_44 : decode cX11_onTheLake 44 = .ok (.iconst 0, 1) := by decide +kernel
theorem dX11_onTheLake_45 : decode cX11_onTheLake 45 = .ok (.ireturn, 1) := by decide +kernel
theorem dX11_onTheLake_46 : decode cX11_onTheLake 46 = .ok (.iinc 2 1, 3) := by decide +kernel
theorem dX11_onTheLake_49 : decode cX11_onTheLake 49 = .ok (.goto (-31), 3) := by decide +kernel
theorem dX11_onTheLake_52 : decode cX11_onTheLake 52 = .ok (.iconst 1, 1) := by decide +kernel
theorem dX11_onTheLake_53 : decode cX11_onTheLake 53 = .ok (.ireturn, 1) := by decide +kernel
theorem dX11_goes_0 : decode cX11_goes 0 = .ok (.iload_n 1, 1) := by decide +kernel
theorem dX11_goes_1 : decode cX11_goes 1 = .ok (.ifCond .ne 74, 3) := by decide +kernel
theorem dX11_goes_4 : decode cX11_goes 4 = .ok (.iload 5, 2) := by decide +kernel
theorem dX11_goes_6 : decode cX11_goes 6 = .ok (.iload_n 3, 1) := by decide +kernel
theorem dX11_goes_7 : decode cX11_goes 7 = .ok (.iconst 0, 1) := by decide +kernel
theorem dX11_goes_8 : decode cX11_goes 8 = .ok (.invokestatic 126, 3) := by decide +kernel
theorem dX11_goes_11 : decode cX11_goes 11 = .ok (.aload_n 0, 1) := by decide +kernel
theorem dX11_goes_12 : decode cX11_goes 12 = .ok (.getfield 77, 3) := by decide +kernel
theorem dX11_goes_15 : decode cX11_goes 15 = .ok (.iload 4, 2) := by decide +kernel
theorem dX11_goes_17 : decode cX11_goes 17 = .ok (.iadd, 1) := by decide +kernel
theorem dX11_goes_18 : decode cX11_goes 18 = .ok (.imul, 1) := by decide +kernel
theorem dX11_goes_19 : decode cX11_goes 19 = .ok (.iadd, 1) := by decide +kernel
theorem dX11_goes_20 : decode cX11_goes 20 = .ok (.istore 6, 2) := by decide +kernel
theorem dX11_goes_22 : decode cX11_goes 22 = .ok (.aload_n 0, 1) := by decide +kernel
theorem dX11_goes_23 : decode cX11_goes 23 = .ok (.getfield 262, 3) := by decide +kernel
theorem dX11_goes_26 : decode cX11_goes 26 = .ok (.ifCond .lt 13, 3) := by decide +kernel
theorem dX11_goes_29 : decode cX11_goes 29 = .ok (.iload 6, 2) := by decide +kernel
theorem dX11_goes_31 : decode cX11_goes 31 = .ok (.aload_n 0, 1) := by decide +kernel
theorem dX11_goes_32 : decode cX11_goes 32 = .ok (.getfield 262, 3) := by decide +kernel
theorem dX11_goes_35 : decode cX11_goes 35 = .ok (.if_icmp .lt 4, 3) := by decide +kernel
theorem dX11_goes_38 : decode cX11_goes 38 = .ok (.return_, 1) := by decide +kernel
theorem dX11_goes_39 : decode cX11_goes 39 = .ok (.aload_n 0, 1) := by decide +kernel
theorem dX11_goes_40 : decode cX11_goes 40 = .ok (.iload 6, 2) := by decide +kernel
theorem dX11_goes_42 : decode cX11_goes 42 = .ok (.putfield 262, 3) := by decide +kernel
theorem dX11_goes_45 : decode cX11_goes 45 = .ok (.iconst 0, 1) := by decide +kernel
theorem dX11_goes_46 : decode cX11_goes 46 = .ok (.istore 7, 2) := by decide +kernel
theorem dX11_goes_48 : decode cX11_goes 48 = .ok (.iload 7, 2) := by decide +kernel
theorem dX11_goes_50 : decode cX11_goes 50 = .ok (.iload_n 2, 1) := by decide +kernel
theorem dX11_goes_51 : decode cX11_goes 51 = .ok (.if_icmp .ge 23, 3) := by decide +kernel
theorem dX11_goes_54 : decode cX11_goes 54 = .ok (.aload_n 0, 1) := by decide +kernel
theorem dX11_goes_55 : decode cX11_goes 55 = .ok (.getfield 49, 3) := by decide +kernel
theorem dX11_goes_58 : decode cX11_goes 58 = .ok (.iload 7, 2) := by decide +kernel
theorem dX11_goes_60 : decode cX11_goes 60 = .ok (.aload_n 0, 1) := by decide +kernel
theorem dX11_goes_61 : decode cX11_goes 61 = .ok (.getfield 46, 3) := by decide +kernel
theorem dX11_goes_64 : decode cX11_goes 64 = .ok (.iload 7, 2) := by decide +kernel
theorem dX11_goes_66 : decode cX11_goes 66 = .ok (.iaload, 1) := by decide +kernel
theorem dX11_goes_67 : decode cX11_goes 67 = .ok (.iastore, 1) := by decide +kernel
theorem dX11_goes_68 : decode cX11_goes 68 = .ok (.iinc 7 1, 3) := by decide +kernel
theorem dX11_goes_71 : decode cX11_goes 71 = .ok (.goto (-23), 3) := by decide +kernel
theorem dX11_goes_74 : decode cX11_goes 74 = .ok (.return_, 1) := by decide +kernel
theorem dX11_goes_75 : decode cX11_goes 75 = .ok (.iload 4, 2) := by decide +kernel
theorem dX11_goes_77 : decode cX11_goes 77 = .ok (.aload_n 0, 1) := by decide +kernel
theorem dX11_goes_78 : decode cX11_goes 78 = .ok (.getfield 74, 3) := by decide +kernel
theorem dX11_goes_81 : decode cX11_goes 81 = .ok (.if_icmp .ne 28, 3) := by decide +kernel
theorem dX11_goes_84 : decode cX11_goes 84 = .ok (.aload_n 0, 1) := by decide +kernel
theorem dX11_goes_85 : decode cX11_goes 85 = .ok (.iload_n 1, 1) := by decide +kernel
theorem dX11_goes_86 : decode cX11_goes 86 = .ok (.iload_n 2, 1) := by decide +kernel
theorem dX11_goes_87 : decode cX11_goes 87 = .ok (.iconst 0, 1) := by decide +kernel
theorem dX11_goes_88 : decode cX11_goes 88 = .ok (.iconst 0, 1) := by decide +kernel
theorem dX11_goes_89 : decode cX11_goes 89 = .ok (.iload 5, 2) := by decide +kernel
theorem dX11_goes_91 : decode cX11_goes 91 = .ok (.iload_n 3, 1) := by decide +kernel
theorem dX11_goes_92 : decode cX11_goes 92 = .ok (.iconst 0, 1) := by decide +kernel
theorem dX11_goes_93 : decode cX11_goes 93 = .ok (.invokestatic 126, 3) := by decide +kernel
theorem dX11_goes_96 : decode cX11_goes 96 = .ok (.aload_n 0, 1) := by decide +kernel
theorem dX11_goes_97 : decode cX11_goes 97 = .ok (.getfield 77, 3) := by decide +kernel
theorem dX11_goes_100 : decode cX11_goes 100 = .ok (.iload 4, 2) := by decide +kernel
theorem dX11_goes_102 : decode cX11_goes 102 = .ok (.iadd, 1) := by decide +kernel
theorem dX11_goes_103 : decode cX11_goes 103 = .ok (.imul, 1) := by decide +kernel
theorem dX11_goes_104 : decode cX11_goes 104 = .ok (.iadd, 1) := by decide +kernel
theorem dX11_goes_105 : decode cX11_goes 105 = .ok (.invokevirtual 265, 3) := by decide +kernel
theorem dX11_goes_108 : decode cX11_goes 108 = .ok (.return_, 1) := by decide +kernel
theorem dX11_goes_109 : decode cX11_goes 109 = .ok (.iconst 0, 1) := by decide +kernel
theorem dX11_goes_110 : decode cX11_goes 110 = .ok (.istore 6, 2) := by decide +kernel
theorem dX11_goes_112 : decode cX11_goes 112 = .ok (.iload 6, 2) := by decide +kernel
theorem dX11_goes_114 : decode cX11_goes 114 = .ok (.aload_n 0, 1) := by decide +kernel
theorem dX11_goes_115 : decode cX11_goes 115 = .ok (.getfield 99, 3) := by decide +kernel
theorem dX11_goes_118 : decode cX11_goes 118 = .ok (.if_icmp .ge 77, 3) := by decide +kernel
theorem dX11_goes_121 : decode cX11_goes 121 = .ok (.iload_n 1, 1) := by decide +kernel
theorem dX11_goes_122 : decode cX11_goes 122 = .ok (.iload 6, 2) := by decide +kernel
theorem dX11_goes_124 : decode cX11_goes 124 = .ok (.ishr, 1) := by decide +kernel
theorem dX11_goes_125 : decode cX11_goes 125 = .ok (.iconst 1, 1) := by decide +kernel
theorem dX11_goes_126 : decode cX11_goes 126 = .ok (.iand, 1) := by decide +kernel
theorem dX11_goes_127 : decode cX11_goes 127 = .ok (.ifCond .ne 6, 3) := by decide +kernel
theorem dX11_goes_130 : decode cX11_goes 130 = .ok (.goto 59, 3) := by decide +kernel
theorem dX11_goes_133 : decode cX11_goes 133 = .ok (.aload_n 0, 1) := by decide +kernel
theorem dX11_goes_134 : decode cX11_goes 134 = .ok (.getfield 46, 3) := by decide +kernel
theorem dX11_goes_137 : decode cX11_goes 137 = .ok (.iload_n 2, 1) := by decide +kernel
theorem dX11_goes_138 : decode cX11_goes 138 = .ok (.iload 6, 2) := by decide +kernel
theorem dX11_goes_140 : decode cX11_goes 140 = .ok (.iastore, 1) := by decide +kernel
theorem dX11_goes_141 : decode cX11_goes 141 = .ok (.aload_n 0, 1) := by decide +kernel
theorem dX11_goes_142 : decode cX11_goes 142 = .ok (.iload_n 1, 1) := by decide +kernel
theorem dX11_goes_143 : decode cX11_goes 143 = .ok (.iconst 1, 1) := by decide +kernel
theorem dX11_goes_144 : decode cX11_goes 144 = .ok (.iload 6, 2) := by decide +kernel
theorem dX11_goes_146 : decode cX11_goes 146 = .ok (.ishl, 1) := by decide +kernel
theorem dX11_goes_147 : decode cX11_goes 147 = .ok (.iconst (-1), 1) := by decide +kernel
theorem dX11_goes_148 : decode cX11_goes 148 = .ok (.ixor, 1) := by decide +kernel
theorem dX11_goes_149 : decode cX11_goes 149 = .ok (.iand, 1) := by decide +kernel
theorem dX11_goes_150 : decode cX11_goes 150 = .ok (.iload_n 2, 1) := by decide +kernel
theorem dX11_goes_151 : decode cX11_goes 151 = .ok (.iconst 1, 1) := by decide +kernel
theorem dX11_goes_152 : decode cX11_goes 152 = .ok (.iadd, 1) := by decide +kernel
theorem dX11_goes_153 : decode cX11_goes 153 = .ok (.aload_n 0, 1) := by decide +kernel
theorem dX11_goes_154 : decode cX11_goes 154 = .ok (.getfield 16, 3) := by decide +kernel
theorem dX11_goes_157 : decode cX11_goes 157 = .ok (.iload 6, 2) := by decide +kernel
theorem dX11_goes_159 : decode cX11_goes 159 = .ok (.iaload, 1) := by decide +kernel
theorem dX11_goes_160 : decode cX11_goes 160 = .ok (.iload 4, 2) := by decide +kernel
theorem dX11_goes_162 : decode cX11_goes 162 = .ok (.iconst 1, 1) := by decide +kernel
theorem dX11_goes_163 : decode cX11_goes 163 = .ok (.iadd, 1) := by decide +kernel
theorem dX11_goes_164 : decode cX11_goes 164 = .ok (.iload 5, 2) := by decide +kernel
theorem dX11_goes_166 : decode cX11_goes 166 = .ok (.iload_n 3, 1) := by decide +kernel
theorem dX11_goes_167 : decode cX11_goes 167 = .ok (.aload_n 0, 1) := by decide +kernel
theorem dX11_goes_168 : decode cX11_goes 168 = .ok (.getfield 16, 3) := by decide +kernel
theorem dX11_goes_171 : decode cX11_goes 171 = .ok (.iload 6, 2) := by decide +kernel
theorem dX11_goes_173 : decode cX11_goes 173 = .ok (.iaload, 1) := by decide +kernel
theorem dX11_goes_174 : decode cX11_goes 174 = .ok (.invokestatic 126, 3) := by decide +kernel
theorem dX11_goes_177 : decode cX11_goes 177 = .ok (.aload_n 0, 1) := by decide +kernel
theorem dX11_goes_178 : decode cX11_goes 178 = .ok (.getfield 77, 3) := by decide +kernel
theorem dX11_goes_181 : decode cX11_goes 181 = .ok (.iload 4, 2) := by decide +kernel
theorem dX11_goes_183 : decode cX11_goes 183 = .ok (.iadd, 1) := by decide +kernel
theorem dX11_goes_184 : decode cX11_goes 184 = .ok (.imul, 1) := by decide +kernel
theorem dX11_goes_185 : decode cX11_goes 185 = .ok (.iadd, 1) := by decide +kernel
theorem dX11_goes_186 : decode cX11_goes 186 = .ok (.invokevirtual 265, 3) := by decide +kernel
theorem dX11_goes_189 : decode cX11_goes 189 = .ok (.iinc 6 1, 3) := by decide +kernel
theorem dX11_goes_192 : decode cX11_goes 192 = .ok (.goto (-80), 3) := by decide +kernel
theorem dX11_goes_195 : decode cX11_goes 195 = .ok (.return_, 1) := by decide +kernel
theorem dX11_fetches_0 : decode cX11_fetches 0 = .ok (.aload_n 0, 1) := by decide +kernel
theorem dX11_fetches_1 : decode cX11_fetches 1 = .ok (.iconst (-1), 1) := by decide +kernel
theorem dX11_fetches_2 : decode cX11_fetches 2 = .ok (.putfield 262, 3) := by decide +kernel
theorem dX11_fetches_5 : decode cX11_fetches 5 = .ok (.aload_n 0, 1) := by decide +kernel
theorem dX11_fetches_6 : decode cX11_fetches 6 = .ok (.iload_n 1, 1) := by decide +kernel
theorem dX11_fetches_7 : decode cX11_fetches 7 = .ok (.iconst 0, 1) := by decide +kernel
theorem dX11_fetches_8 : decode cX11_fetches 8 = .ok (.iconst 0, 1) := by decide +kernel
theorem dX11_fetches_9 : decode cX11_fetches 9 = .ok (.iconst 0, 1) := by decide +kernel
theorem dX11_fetches_10 : decode cX11_fetches 10 = .ok (.iconst 0, 1) := by decide +kernel
theorem dX11_fetches_11 : decode cX11_fetches 11 = .ok (.invokevirtual 265, 3) := by decide +kernel
theorem dX11_fetches_14 : decode cX11_fetches 14 = .ok (.aload_n 0, 1) := by decide +kernel
theorem dX11_fetches_15 : decode cX11_fetches 15 = .ok (.getfield 262, 3) := by decide +kernel
theorem dX11_fetches_18 : decode cX11_fetches 18 = .ok (.ireturn, 1) := by decide +kernel
theorem dX11_fetch_0 : decode cX11_fetch 0 = .ok (.aload_n 0, 1) := by decide +kernel
theorem dX11_fetch_1 : decode cX11_fetch 1 = .ok (.iload_n 1, 1) := by decide +kernel
theorem dX11_fetch_2 : decode cX11_fetch 2 = .ok (.invokevirtual 269, 3) := by decide +kernel
theorem dX11_fetch_5 : decode cX11_fetch 5 = .ok (.ifCond .eq 13, 3) := by decide +kernel
theorem dX11_fetch_8 : decode cX11_fetch 8 = .ok (.iload_n 2, 1) := by decide +kernel
theorem dX11_fetch_9 : decode cX11_fetch 9 = .ok (.iconst 0, 1) := by decide +kernel
theorem dX11_fetch_10 : decode cX11_fetch 10 = .ok (.bipush 7, 2) := by decide +kernel
theorem dX11_fetch_12 : decode cX11_fetch 12 = .ok (.invokestatic 102, 3) := by decide +kernel
theorem dX11_fetch_15 : decode cX11_fetch 15 = .ok (.ifCond .ne 6, 3) := by decide +kernel
theorem dX11_fetch_18 : decode cX11_fetch 18 = .ok (.bipush (-2), 2) := by decide +kernel
theorem dX11_fetch_20 : decode cX11_fetch 20 = .ok (.ireturn, 1) := by decide +kernel
theorem dX11_fetch_21 : decode cX11_fetch 21 = .ok (.aload_n 0, 1) := by decide +kernel
theorem dX11_fetch_22 : decode cX11_fetch 22 = .ok (.iload_n 1, 1) := by decide +kernel
theorem dX11_fetch_23 : decode cX11_fetch 23 = .ok (.invokevirtual 272, 3) := by decide +kernel
theorem dX11_fetch_26 : decode cX11_fetch 26 = .ok (.istore_n 3, 1) := by decide +kernel
theorem dX11_fetch_27 : decode cX11_fetch 27 = .ok (.iload_n 2, 1) := by decide +kernel
theorem dX11_fetch_28 : decode cX11_fetch 28 = .ok (.ifCond .ne 7, 3) := by decide +kernel
theorem dX11_fetch_31 : decode cX11_fetch 31 = .ok (.iload_n 3, 1) := by decide +kernel
theorem dX11_fetch_32 : decode cX11_fetch 32 = .ok (.goto 23, 3) := by decide +kernel
theorem dX11_fetch_35 : decode cX11_fetch 35 = .ok (.iload_n 2, 1) := by decide +kernel
theorem dX11_fetch_36 : decode cX11_fetch 36 = .ok (.iload_n 1, 1) := by decide +kernel
theorem dX11_fetch_37 : decode cX11_fetch 37 = .ok (.invokestatic 275, 3) := by decide +kernel
theorem dX11_fetch_40 : decode cX11_fetch 40 = .ok (.if_icmp .le 7, 3) := by decide +kernel
theorem dX11_fetch_43 : decode cX11_fetch 43 = .ok (.iconst (-1), 1) := by decide +kernel
theorem dX11_fetch_44 : decode cX11_fetch 44 = .ok (.goto 11, 3) := by decide +kernel
theorem dX11_fetch_47 : decode cX11_fetch 47 = .ok (.aload_n 0, 1) := by decide +kernel
theorem dX11_fetch_48 : decode cX11_fetch 48 = .ok (.getfield 49, 3) := by decide +kernel
theorem dX11_fetch_51 : decode cX11_fetch 51 = .ok (.iload_n 2, 1) := by decide +kernel
theorem dX11_fetch_52 : decode cX11_fetch 52 = .ok (.iconst 1, 1) := by decide +kernel
theorem dX11_fetch_53 : decode cX11_fetch 53 = .ok (.isub, 1) := by decide +kernel
theorem dX11_fetch_54 : decode cX11_fetch 54 = .ok (.iaload, 1) := by decide +kernel
theorem dX11_fetch_55 : decode cX11_fetch 55 = .ok (.ireturn, 1) := by decide +kernel
theorem dX11_launch_0 : decode cX11_launch 0 = .ok (.aload_n 0, 1) := by decide +kernel
theorem dX11_launch_1 : decode cX11_launch 1 = .ok (.iload_n 1, 1) := by decide +kernel
theorem dX11_launch_2 : decode cX11_launch 2 = .ok (.invokevirtual 269, 3) := by decide +kernel
theorem dX11_launch_5 : decode cX11_launch 5 = .ok (.ifCond .ne 6, 3) := by decide +kernel
theorem dX11_launch_8 : decode cX11_launch 8 = .ok (.bipush (-2), 2) := by decide +kernel
theorem dX11_launch_10 : decode cX11_launch 10 = .ok (.ireturn, 1) := by decide +kernel
theorem dX11_launch_11 : decode cX11_launch 11 = .ok (.aload_n 0, 1) := by decide +kernel
theorem dX11_launch_12 : decode cX11_launch 12 = .ok (.iload_n 1, 1) := by decide +kernel
theorem dX11_launch_13 : decode cX11_launch 13 = .ok (.invokevirtual 272, 3) := by decide +kernel
theorem dX11_launch_16 : decode cX11_launch 16 = .ok (.istore_n 2, 1) := by decide +kernel
theorem dX11_launch_17 : decode cX11_launch 17 = .ok (.aload_n 0, 1) := by decide +kernel
theorem dX11_launch_18 : decode cX11_launch 18 = .ok (.iload_n 2, 1) := by decide +kernel
theorem dX11_launch_19 : decode cX11_launch 19 = .ok (.invokevirtual 256, 3) := by decide +kernel
theorem dX11_launch_22 : decode cX11_launch 22 = .ok (.pop, 1) := by decide +kernel
theorem dX11_launch_23 : decode cX11_launch 23 = .ok (.iconst 0, 1) := by decide +kernel
theorem dX11_launch_24 : decode cX11_launch 24 = .ok (.istore_n 3, 1) := by decide +kernel
theorem dX11_launch_25 : decode cX11_launch 25 = .ok (.iload_n 3, 1) := by decide +kernel
theorem dX11_launch_26 : decode cX11_launch 26 = .ok (.aload_n 0, 1) := by decide +kernel
theorem dX11_launch_27 : decode cX11_launch 27 = .ok (.getfield 99, 3) := by decide +kernel
theorem dX11_launch_30 : decode cX11_launch 30 = .ok (.if_icmp .ge 27, 3) := by decide +kernel
theorem dX11_launch_33 : decode cX11_launch 33 = .ok (.iload_n 1, 1) := by decide +kernel
theorem dX11_launch_34 : decode cX11_launch 34 = .ok (.iload_n 3, 1) := by decide +kernel
theorem dX11_launch_35 : decode cX11_launch 35 = .ok (.ishr, 1) := by decide +kernel
theorem dX11_launch_36 : decode cX11_launch 36 = .ok (.iconst 1, 1) := by decide +kernel
theorem dX11_launch_37 : decode cX11_launch 37 = .ok (.iand, 1) := by decide +kernel
theorem dX11_launch_38 : decode cX11_launch 38 = .ok (.iconst 1, 1) := by decide +kernel
theorem dX11_launch_39 : decode cX11_launch 39 = .ok (.if_icmp .ne 12, 3) := by decide +kernel
theorem dX11_launch_42 : decode cX11_launch 42 = .ok (.aload_n 0, 1) := by decide +kernel
theorem dX11_launch_43 : decode cX11_launch 43 = .ok (.iload_n 3, 1) := by decide +kernel
theorem dX11_launch_44 : decode cX11_launch 44 = .ok (.aload_n 0, 1) := by decide +kernel
theorem dX11_launch_45 : decode cX11_launch 45 = .ok (.getfield 142, 3) := by decide +kernel
theorem dX11_launch_48 : decode cX11_launch 48 = .ok (.invokevirtual 252, 3) := by decide +kernel
theorem dX11_launch_51 : decode cX11_launch 51 = .ok (.iinc 3 1, 3) := by decide +kernel
theorem dX11_launch_54 : decode cX11_launch 54 = .ok (.goto (-29), 3) := by decide +kernel
theorem dX11_launch_57 : decode cX11_launch 57 = .ok (.iload_n 2, 1) := by decide +kernel
theorem dX11_launch_58 : decode cX11_launch 58 = .ok (.ireturn, 1) := by decide +kernel
theorem dX11_one__0 : decode cX11_one_ 0 = .ok (.iload_n 1, 1) := by decide +kernel
theorem dX11_one__1 : decode cX11_one_ 1 = .ok (.iconst 0, 1) := by decide +kernel
theorem dX11_one__2 : decode cX11_one_ 2 = .ok (.iconst 1, 1) := by decide +kernel
theorem dX11_one__3 : decode cX11_one_ 3 = .ok (.invokestatic 102, 3) := by decide +kernel
theorem dX11_one__6 : decode cX11_one_ 6 = .ok (.ifCond .ne 6, 3) := by decide +kernel
theorem dX11_one__9 : decode cX11_one_ 9 = .ok (.bipush (-2), 2) := by decide +kernel
theorem dX11_one__11 : decode cX11_one_ 11 = .ok (.ireturn, 1) := by decide +kernel
theorem dX11_one__12 : decode cX11_one_ 12 = .ok (.iconst (-1), 1) := by decide +kernel
theorem dX11_one__13 : decode cX11_one_ 13 = .ok (.istore_n 2, 1) := by decide +kernel
theorem dX11_one__14 : decode cX11_one_ 14 = .ok (.iconst 0, 1) := by decide +kernel
theorem dX11_one__15 : decode cX11_one_ 15 = .ok (.istore_n 3, 1) := by decide +kernel
theorem dX11_one__16 : decode cX11_one_ 16 = .ok (.iconst 0, 1) := by decide +kernel
theorem dX11_one__17 : decode cX11_one_ 17 = .ok (.istore 4, 2) := by decide +kernel
theorem dX11_one__19 : decode cX11_one_ 19 = .ok (.iload 4, 2) := by decide +kernel
theorem dX11_one__21 : decode cX11_one_ 21 = .ok (.aload_n 0, 1) := by decide +kernel
theorem dX11_one__22 : decode cX11_one_ 22 = .ok (.getfield 99, 3) := by decide +kernel
theorem dX11_one__25 : decode cX11_one_ 25 = .ok (.if_icmp .ge 51, 3) := by decide +kernel
theorem dX11_one__28 : decode cX11_one_ 28 = .ok (.aload_n 0, 1) := by decide +kernel
theorem dX11_one__29 : decode cX11_one_ 29 = .ok (.getfield 25, 3) := by decide +kernel
theorem dX11_one__32 : decode cX11_one_ 32 = .ok (.iload 4, 2) := by decide +kernel
theorem dX11_one__34 : decode cX11_one_ 34 = .ok (.iaload, 1) := by decide +kernel
theorem dX11_one__35 : decode cX11_one_ 35 = .ok (.ifCond .eq 6, 3) := by decide +kernel
theorem dX11_one__38 : decode cX11_one_ 38 = .ok (.goto 32, 3) := by decide +kernel
theorem dX11_one__41 : decode cX11_one_ 41 = .ok (.aload_n 0, 1) := by decide +kernel
theorem dX11_one__42 : decode cX11_one_ 42 = .ok (.iconst 1, 1) := by decide +kernel
theorem dX11_one__43 : decode cX11_one_ 43 = .ok (.iload 4, 2) := by decide +kernel
theorem dX11_one__45 : decode cX11_one_ 45 = .ok (.ishl, 1) := by decide +kernel
theorem dX11_one__46 : decode cX11_one_ 46 = .ok (.invokevirtual 272, 3) := by decide +kernel
theorem dX11_one__49 : decode cX11_one_ 49 = .ok (.istore 5, 2) := by decide +kernel
theorem dX11_one__51 : decode cX11_one_ 51 = .ok (.iload_n 2, 1) := by decide +kernel
theorem dX11_one__52 : decode cX11_one_ 52 = .ok (.ifCond .lt 12, 3) := by decide +kernel
theorem dX11_one__55 : decode cX11_one_ 55 = .ok (.iload 5, 2) := by decide +kernel
theorem dX11_one__57 : decode cX11_one_ 57 = .ok (.iload_n 3, 1) := by decide +kernel
theorem dX11_one__58 : decode cX11_one_ 58 = .ok (.if_icmp .lt 6, 3) := by decide +kernel
theorem dX11_one__61 : decode cX11_one_ 61 = .ok (.goto 9, 3) := by decide +kernel
theorem dX11_one__64 : decode cX11_one_ 64 = .ok (.iload 4, 2) := by decide +kernel
theorem dX11_one__66 : decode cX11_one_ 66 = .ok (.istore_n 2, 1) := by decide +kernel
theorem dX11_one__67 : decode cX11_one_ 67 = .ok (.iload 5, 2) := by decide +kernel
theorem dX11_one__69 : decode cX11_one_ 69 = .ok (.istore_n 3, 1) := by decide +kernel
theorem dX11_one__70 : decode cX11_one_ 70 = .ok (.iinc 4 1, 3) := by decide +kernel
theorem dX11_one__73 : decode cX11_one_ 73 = .ok (.goto (-54), 3) := by decide +kernel
theorem dX11_one__76 : decode cX11_one_ 76 = .ok (.iload_n 1, 1) := by decide +kernel
theorem dX11_one__77 : decode cX11_one_ 77 = .ok (.ifCond .ne 7, 3) := by decide +kernel
theorem dX11_one__80 : decode cX11_one_ 80 = .ok (.iload_n 2, 1) := by decide +kernel
theorem dX11_one__81 : decode cX11_one_ 81 = .ok (.goto 4, 3) := by decide +kernel
theorem dX11_one__84 : decode cX11_one_ 84 = .ok (.iload_n 3, 1) := by decide +kernel
theorem dX11_one__85 : decode cX11_one_ 85 = .ok (.ireturn, 1) := by decide +kernel
theorem dX11_thunder_0 : decode cX11_thunder 0 = .ok (.iload_n 1, 1) := by decide +kernel
theorem dX11_thunder_1 : decode cX11_thunder 1 = .ok (.iconst 0, 1) := by decide +kernel
theorem dX11_thunder_2 : decode cX11_thunder 2 = .ok (.sipush 240, 3) := by decide +kernel
theorem dX11_thunder_5 : decode cX11_thunder 5 = .ok (.invokestatic 102, 3) := by decide +kernel
theorem dX11_thunder_8 : decode cX11_thunder 8 = .ok (.ifCond .eq 12, 3) := by decide +kernel
theorem dX11_thunder_11 : decode cX11_thunder 11 = .ok (.iload_n 2, 1) := by decide +kernel
theorem dX11_thunder_12 : decode cX11_thunder 12 = .ok (.iconst 0, 1) := by decide +kernel
theorem dX11_thunder_13 : decode cX11_thunder 13 = .ok (.iconst 1, 1) := by decide +kernel
theorem dX11_thunder_14 : decode cX11_thunder 14 = .ok (.invokestatic 102, 3) := by decide +kernel
theorem dX11_thunder_17 : decode cX11_thunder 17 = .ok (.ifCond .ne 6, 3) := by decide +kernel
theorem dX11_thunder_20 : decode cX11_thunder 20 = .ok (.bipush (-2), 2) := by decide +kernel
theorem dX11_thunder_22 : decode cX11_thunder 22 = .ok (.ireturn, 1) := by decide +kernel
theorem dX11_thunder_23 : decode cX11_thunder 23 = .ok (.iload_n 2, 1) := by decide +kernel
theorem dX11_thunder_24 : decode cX11_thunder 24 = .ok (.ifCond .ne 67, 3) := by decide +kernel
theorem dX11_thunder_27 : decode cX11_thunder 27 = .ok (.iconst 0, 1) := by decide +kernel
theorem dX11_thunder_28 : decode cX11_thunder 28 = .ok (.istore_n 3, 1) := by decide +kernel
theorem dX11_thunder_29 : decode cX11_thunder 29 = .ok (.iconst 0, 1) := by decide +kernel
theorem dX11_thunder_30 : decode cX11_thunder 30 = .ok (.istore 4, 2) := by decide +kernel
theorem dX11_thunder_32 : decode cX11_thunder 32 = .ok (.iload 4, 2) := by decide +kernel
theorem dX11_thunder_34 : decode cX11_thunder 34 = .ok (.aload_n 0, 1) := by decide +kernel
theorem dX11_thunder_35 : decode cX11_thunder 35 = .ok (.getfield 99, 3) := by decide +kernel
theorem dX11_thunder_38 : decode cX11_thunder 38 = .ok (.if_icmp .ge 51, 3) := by decide +kernel
theorem dX11_thunder_41 : decode cX11_thunder 41 = .ok (.aload_n 0, 1) := by decide +kernel
theorem dX11_thunder_42 : decode cX11_thunder 42 = .ok (.iload 4, 2) := by decide +kernel
theorem dX11_thunder_44 : decode cX11_thunder 44 = .ok (.invokevirtual 259, 3) := by decide +kernel
theorem dX11_thunder_47 : decode cX11_thunder 47 = .ok (.istore 5, 2) := by decide +kernel
theorem dX11_thunder_49 : decode cX11_thunder 49 = .ok (.aload_n 0, 1) := by decide +kernel
theorem dX11_thunder_50 : decode cX11_thunder 50 = .ok (.getfield 25, 3) := by decide +kernel
theorem dX11_thunder_53 : decode cX11_thunder 53 = .ok (.iload 4, 2) := by decide +kernel
theorem dX11_thunder_55 : decode cX11_thunder 55 = .ok (.iaload, 1) := by decide +kernel
theorem dX11_thunder_56 : decode cX11_thunder 56 = .ok (.iconst 2, 1) := by decide +kernel
theorem dX11_thunder_57 : decode cX11_thunder 57 = .ok (.if_icmp .eq 19, 3) := by decide +kernel
theorem dX11_thunder_60 : decode cX11_thunder 60 = .ok (.iload 5, 2) := by decide +kernel
theorem dX11_thunder_62 : decode cX11_thunder 62 = .ok (.ifCond .lt 21, 3) := by decide +kernel
theorem dX11_thunder_65 : decode cX11_thunder 65 = .ok (.iload 5, 2) := by decide +kernel
theorem dX11_thunder_67 : decode cX11_thunder 67 = .ok (.aload_n 0, 1) := by decide +kernel
theorem dX11_thunder_68 : decode cX11_thunder 68 = .ok (.getfield 142, 3) := by decide +kernel
theorem dX11_thunder_71 : decode cX11_thunder 71 = .ok (.iload_n 1, 1) := by decide +kernel
theorem dX11_thunder_72 : decode cX11_thunder 72 = .ok (.iadd, 1) := by decide +kernel
theorem dX11_thunder_73 : decode cX11_thunder 73 = .ok (.if_icmp .gt 10, 3) := by decide +kernel
theorem dX11_thunder_76 : decode cX11_thunder 76 = .ok (.iload_n 3, 1) := by decide +kernel
theorem dX11_thunder_77 : decode cX11_thunder 77 = .ok (.iconst 1, 1) := by decide +kernel
theorem dX11_thunder_78 : decode cX11_thunder 78 = .ok (.iload 4, 2) := by decide +kernel
theorem dX11_thunder_80 : decode cX11_thunder 80 = .ok (.ishl, 1) := by decide +kernel
theorem dX11_thunder_81 : decode cX11_thunder 81 = .ok (.ior, 1) := by decide +kernel
theorem dX11_thunder_82 : decode cX11_thunder 82 = .ok (.istore_n 3, 1) := by decide +kernel
theorem dX11_thunder_83 : decode cX11_thunder 83 = .ok (.iinc 4 1, 3) := by decide +kernel
theorem dX11_thunder_86 : decode cX11_thunder 86 = .ok (.goto (-54), 3) := by decide +kernel
theorem dX11_thunder_89 : decode cX11_thunder 89 = .ok (.iload_n 3, 1) := by decide +kernel
theorem dX11_thunder_90 : decode cX11_thunder 90 = .ok (.ireturn, 1) := by decide +kernel
theorem dX11_thunder_91 : decode cX11_thunder 91 = .ok (.aload_n 0, 1) := by decide +kernel
theorem dX11_thunder_92 : decode cX11_thunder 92 = .ok (.invokevirtual 280, 3) := by decide +kernel
theorem dX11_thunder_95 : decode cX11_thunder 95 = .ok (.istore_n 3, 1) := by decide +kernel
theorem dX11_thunder_96 : decode cX11_thunder 96 = .ok (.iconst 0, 1) := by decide +kernel
theorem dX11_thunder_97 : decode cX11_thunder 97 = .ok (.istore 4, 2) := by decide +kernel
theorem dX11_thunder_99 : decode cX11_thunder 99 = .ok (.iconst 1, 1) := by decide +kernel
theorem dX11_thunder_100 : decode cX11_thunder 100 = .ok (.istore 5, 2) := by decide +kernel
theorem dX11_thunder_102 : decode cX11_thunder 102 = .ok (.iload 5, 2) := by decide +kernel
theorem dX11_thunder_104 : decode cX11_thunder 104 = .ok (.iconst 1, 1) := by decide +kernel
theorem dX11_thunder_105 : decode cX11_thunder 105 = .ok (.aload_n 0, 1) := by decide +kernel
theorem dX11_thunder_106 : decode cX11_thunder 106 = .ok (.getfield 99, 3) := by decide +kernel
theorem dX11_thunder_109 : decode cX11_thunder 109 = .ok (.ishl, 1) := by decide +kernel
theorem dX11_thunder_110 : decode cX11_thunder 110 = .ok (.if_icmp .ge 45, 3) := by decide +kernel
theorem dX11_thunder_113 : decode cX11_thunder 113 = .ok (.iload 5, 2) := by decide +kernel
theorem dX11_thunder_115 : decode cX11_thunder 115 = .ok (.iload_n 3, 1) := by decide +kernel
theorem dX11_thunder_116 : decode cX11_thunder 116 = .ok (.iconst (-1), 1) := by decide +kernel
theorem dX11_thunder_117 : decode cX11_thunder 117 = .ok (.ixor, 1) := by decide +kernel
theorem dX11_thunder_118 : decode cX11_thunder 118 = .ok (.iand, 1) := by decide +kernel
theorem dX11_thunder_119 : decode cX11_thunder 119 = .ok (.ifCond .ne 30, 3) := by decide +kernel
theorem dX11_thunder_122 : decode cX11_thunder 122 = .ok (.iload 5, 2) := by decide +kernel
theorem dX11_thunder_124 : decode cX11_thunder 124 = .ok (.invokestatic 275, 3) := by decide +kernel
theorem dX11_thunder_127 : decode cX11_thunder 127 = .ok (.iload 4, 2) := by decide +kernel
theorem dX11_thunder_129 : decode cX11_thunder 129 = .ok (.if_icmp .le 20, 3) := by decide +kernel
theorem dX11_thunder_132 : decode cX11_thunder 132 = .ok (.aload_n 0, 1) := by decide +kernel
theorem dX11_thunder_133 : decode cX11_thunder 133 = .ok (.iload 5, 2) := by decide +kernel
theorem dX11_thunder_135 : decode cX11_thunder 135 = .ok (.invokevirtual 272, 3) := by decide +kernel
theorem dX11_thunder_138 : decode cX11_thunder 138 = .ok (.iload_n 1, 1) := by decide +kernel
theorem dX11_thunder_139 : decode cX11_thunder 139 = .ok (.if_icmp .gt 10, 3) := by decide +kernel
theorem dX11_thunder_142 : decode cX11_thunder 142 = .ok (.iload 5, 2) := by decide +kernel
theorem dX11_thunder_144 : decode cX11_thunder 144 = .ok (.invokestatic 275, 3) := by decide +kernel
theorem dX11_thunder_147 : decode cX11_thunder 147 = .ok (.istore 4, 2) := by decide +kernel
theorem dX11_thunder_149 : decode cX11_thunder 149 = .ok (.iinc 5 1, 3) := by decide +kernel
theorem dX11_thunder_152 : decode cX11_thunder 152 = .ok (.goto (-50), 3) := by decide +kernel
theorem dX11_thunder_155 : decode cX11_thunder 155 = .ok (.iload 4, 2) := by decide +kernel
theorem dX11_thunder_157 : decode cX11_thunder 157 = .ok (.ireturn, 1) := by decide +kernel
theorem dX11_stand_0 : decode cX11_stand 0 = .ok (.iconst 0, 1) := by decide +kernel
theorem dX11_stand_1 : decode cX11_stand 1 = .ok (.istore_n 1, 1) := by decide +kernel
theorem dX11_stand_2 : decode cX11_stand 2 = .ok (.iconst 0, 1) := by decide +kernel
theorem dX11_stand_3 : decode cX11_stand 3 = .ok (.istore_n 2, 1) := by decide +kernel
theorem dX11_stand_4 : decode cX11_stand 4 = .ok (.iload_n 2, 1) := by decide +kernel
theorem dX11_stand_5 : decode cX11_stand 5 = .ok (.aload_n 0, 1) := by decide +kernel
theorem dX11_stand_6 : decode cX11_stand 6 = .ok (.getfield 99, 3) := by decide +kernel
theorem dX11_stand_9 : decode cX11_stand 9 = .ok (.if_icmp .ge 76, 3) := by decide +kernel
theorem dX11_stand_12 : decode cX11_stand 12 = .ok (.aload_n 0, 1) := by decide +kernel
theorem dX11_stand_13 : decode cX11_stand 13 = .ok (.iload_n 2, 1) := by decide +kernel
theorem dX11_stand_14 : decode cX11_stand 14 = .ok (.invokevirtual 259, 3) := by decide +kernel
theorem dX11_stand_17 : decode cX11_stand 17 = .ok (.istore_n 3, 1) := by decide +kernel
theorem dX11_stand_18 : decode cX11_stand 18 = .ok (.iload_n 3, 1) := by decide +kernel
theorem dX11_stand_19 : decode cX11_stand 19 = .ok (.ifCond .ge 6, 3) := by decide +kernel
theorem dX11_stand_22 : decode cX11_stand 22 = .ok (.goto 57, 3) := by decide +kernel
theorem dX11_stand_25 : decode cX11_stand 25 = .ok (.iload_n 1, 1) := by decide +kernel
theorem dX11_stand_26 : decode cX11_stand 26 = .ok (.iinc 1 1, 3) := by decide +kernel
theorem dX11_stand_29 : decode cX11_stand 29 = .ok (.istore 4, 2) := by decide +kernel
theorem dX11_stand_31 : decode cX11_stand 31 = .ok (.iload 4, 2) := by decide +kernel
theorem dX11_stand_33 : decode cX11_stand 33 = .ok (.ifCond .le 38, 3) := by decide +kernel
theorem dX11_stand_36 : decode cX11_stand 36 = .ok (.aload_n 0, 1) := by decide +kernel
theorem dX11_stand_37 : decode cX11_stand 37 = .ok (.getfield 52, 3) := by decide +kernel
theorem dX11_stand_40 : decode cX11_stand 40 = .ok (.iload 4, 2) := by decide +kernel
theorem dX11_stand_42 : decode cX11_stand 42 = .ok (.iconst 1, 1) := by decide +kernel
theorem dX11_stand_43 : decode cX11_stand 43 = .ok (.isub, 1) := by decide +kernel
theorem dX11_stand_44 : decode cX11_stand 44 = .ok (.iaload, 1) := by decide +kernel
theorem dX11_stand_45 : decode cX11_stand 45 = .ok (.iload_n 3, 1) := by decide +kernel
theorem dX11_stand_46 : decode cX11_stand 46 = .ok (.if_icmp .le 25, 3) := by decide +kernel
theorem dX11_stand_49 : decode cX11_stand 49 = .ok (.aload_n 0, 1) := by decide +kernel
theorem dX11_stand_50 : decode cX11_stand 50 = .ok (.getfield 52, 3) := by decide +kernel
theorem dX11_stand_53 : decode cX11_stand 53 = .ok (.iload 4, 2) := by decide +kernel
theorem dX11_stand_55 : decode cX11_stand 55 = .ok (.aload_n 0, 1) := by decide +kernel
theorem dX11_stand_56 : decode cX11_stand 56 = .ok (.getfield 52, 3) := by decide +kernel
theorem dX11_stand_59 : decode cX11_stand 59 = .ok (.iload 4, 2) := by decide +kernel
theorem dX11_stand_61 : decode cX11_stand 61 = .ok (.iconst 1, 1) := by decide +kernel
theorem dX11_stand_62 : decode cX11_stand 62 = .ok (.isub, 1) := by decide +kernel
theorem dX11_stand_63 : decode cX11_stand 63 = .ok (.iaload, 1) := by decide +kernel
theorem dX11_stand_64 : decode cX11_stand 64 = .ok (.iastore, 1) := by decide +kernel
theorem dX11_stand_65 : decode cX11_stand 65 = .ok (.iinc 4 (-1), 3) := by decide +kernel
theorem dX11_stand_68 : decode cX11_stand 68 = .ok (.goto (-37), 3) := by decide +kernel
theorem dX11_stand_71 : decode cX11_stand 71 = .ok (.aload_n 0, 1) := by decide +kernel
theorem dX11_stand_72 : decode cX11_stand 72 = .ok (.getfield 52, 3) := by decide +kernel
theorem dX11_stand_75 : decode cX11_stand 75 = .ok (.iload 4, 2) := by decide +kernel
theorem dX11_stand_77 : decode cX11_stand 77 = .ok (.iload_n 3, 1) := by decide +kernel
theorem dX11_stand_78 : decode cX11_stand 78 = .ok (.iastore, 1) := by decide +kernel
theorem dX11_stand_79 : decode cX11_stand 79 = .ok (.iinc 2 1, 3) := by decide +kernel
theorem dX11_stand_82 : decode cX11_stand 82 = .ok (.goto (-78), 3) := by decide +kernel
theorem dX11_stand_85 : decode cX11_stand 85 = .ok (.iconst 0, 1) := by decide +kernel
theorem dX11_stand_86 : decode cX11_stand 86 = .ok (.istore_n 2, 1) := by decide +kernel
theorem dX11_stand_87 : decode cX11_stand 87 = .ok (.iconst 0, 1) := by decide +kernel
theorem dX11_stand_88 : decode cX11_stand 88 = .ok (.istore_n 3, 1) := by decide +kernel
theorem dX11_stand_89 : decode cX11_stand 89 = .ok (.iload_n 3, 1) := by decide +kernel
theorem dX11_stand_90 : decode cX11_stand 90 = .ok (.aload_n 0, 1) := by decide +kernel
theorem dX11_stand_91 : decode cX11_stand 91 = .ok (.getfield 119, 3) := by decide +kernel
theorem dX11_stand_94 : decode cX11_stand 94 = .ok (.if_icmp .ge 34, 3) := by decide +kernel
theorem dX11_stand_97 : decode cX11_stand 97 = .ok (.iload_n 2, 1) := by decide +kernel
theorem dX11_stand_98 : decode cX11_stand 98 = .ok (.iload_n 3, 1) := by decide +kernel
theorem dX11_stand_99 : decode cX11_stand 99 = .ok (.iload_n 1, 1) := by decide +kernel
theorem dX11_stand_100 : decode cX11_stand 100 = .ok (.if_icmp .ge 17, 3) := by decide +kernel
theorem dX11_stand_103 : decode cX11_stand 103 = .ok (.aload_n 0, 1) := by decide +kernel
theorem dX11_stand_104 : decode cX11_stand 104 = .ok (.getfield 52, 3) := by decide +kernel
theorem dX11_stand_107 : decode cX11_stand 107 = .ok (.iload_n 3, 1) := by decide +kernel
theorem dX11_stand_108 : decode cX11_stand 108 = .ok (.iaload, 1) := by decide +kernel
theorem dX11_stand_109 : decode cX11_stand 109 = .ok (.aload_n 0, 1) := by decide +kernel
theorem dX11_stand_110 : decode cX11_stand 110 = .ok (.getfield 142, 3) := by decide +kernel
theorem dX11_stand_113 : decode cX11_stand 113 = .ok (.isub, 1) := by decide +kernel
theorem dX11_stand_114 : decode cX11_stand 114 = .ok (.goto 6, 3) := by decide +kernel
theorem dX11_stand_117 : decode cX11_stand 117 = .ok (.sipush 240, 3) := by decide +kernel
theorem dX11_stand_120 : decode cX11_stand 120 = .ok (.iadd, 1) := by decide +kernel
theorem dX11_stand_121 : decode cX11_stand 121 = .ok (.istore_n 2, 1) := by decide +kernel
theorem dX11_stand_122 : decode cX11_stand 122 = .ok (.iinc 3 1, 3) := by decide +kernel
theorem dX11_stand_125 : decode cX11_stand 125 = .ok (.goto (-36), 3) := by decide +kernel
theorem dX11_stand_128 : decode cX11_stand 128 = .ok (.iload_n 2, 1) := by decide +kernel
theorem dX11_stand_129 : decode cX11_stand 129 = .ok (.ireturn, 1) := by decide +kernel
theorem dX11_heard_0 : decode cX11_heard 0 = .ok (.iload_n 1, 1) := by decide +kernel
theorem dX11_heard_1 : decode cX11_heard 1 = .ok (.iconst 0, 1) := by decide +kernel
theorem dX11_heard_2 : decode cX11_heard 2 = .ok (.iconst 3, 1) := by decide +kernel
theorem dX11_heard_3 : decode cX11_heard 3 = .ok (.invokestatic 102, 3) := by decide +kernel
theorem dX11_heard_6 : decode cX11_heard 6 = .ok (.ifCond .ne 6, 3) := by decide +kernel
theorem dX11_heard_9 : decode cX11_heard 9 = .ok (.bipush (-2), 2) := by decide +kernel
theorem dX11_heard_11 : decode cX11_heard 11 = .ok (.ireturn, 1) := by decide +kernel
theorem dX11_heard_12 : decode cX11_heard 12 = .ok (.aload_n 0, 1) := by decide +kernel
theorem dX11_heard_13 : decode cX11_heard 13 = .ok (.getfield 58, 3) := by decide +kernel
theorem dX11_heard_16 : decode cX11_heard 16 = .ok (.iload_n 1, 1) := by decide +kernel
theorem dX11_heard_17 : decode cX11_heard 17 = .ok (.iaload, 1) := by decide +kernel
theorem dX11_heard_18 : decode cX11_heard 18 = .ok (.iconst (-1), 1) := by decide +kernel
theorem dX11_heard_19 : decode cX11_heard 19 = .ok (.if_icmp .ne 6, 3) := by decide +kernel
theorem dX11_heard_22 : decode cX11_heard 22 = .ok (.bipush (-11), 2) := by decide +kernel
theorem dX11_heard_24 : decode cX11_heard 24 = .ok (.ireturn, 1) := by decide +kernel
theorem dX11_heard_25 : decode cX11_heard 25 = .ok (.aload_n 0, 1) := by decide +kernel
theorem dX11_heard_26 : decode cX11_heard 26 = .ok (.getfield 61, 3) := by decide +kernel
theorem dX11_heard_29 : decode cX11_heard 29 = .ok (.iload_n 1, 1) := by decide +kernel
theorem dX11_heard_30 : decode cX11_heard 30 = .ok (.iaload, 1) := by decide +kernel
theorem dX11_heard_31 : decode cX11_heard 31 = .ok (.istore_n 2, 1) := by decide +kernel
theorem dX11_heard_32 : decode cX11_heard 32 = .ok (.iload_n 2, 1) := by decide +kernel
theorem dX11_heard_33 : decode cX11_heard 33 = .ok (.iconst 2, 1) := by decide +kernel
theorem dX11_heard_34 : decode cX11_heard 34 = .ok (.irem, 1) := by decide +kernel
theorem dX11_heard_35 : decode cX11_heard 35 = .ok (.iconst 1, 1) := by decide +kernel
theorem dX11_heard_36 : decode cX11_heard 36 = .ok (.if_icmp .ne 6, 3) := by decide +kernel
theorem dX11_heard_39 : decode cX11_heard 39 = .ok (.bipush (-2), 2) := by decide +kernel
theorem dX11_heard_41 : decode cX11_heard 41 = .ok (.ireturn, 1) := by decide +kernel
theorem dX11_heard_42 : decode cX11_heard 42 = .ok (.iconst 0, 1) := by decide +kernel
theorem dX11_heard_43 : decode cX11_heard 43 = .ok (.istore_n 3, 1) := by decide +kernel
theorem dX11_heard_44 : decode cX11_heard 44 = .ok (.iload_n 3, 1) := by decide +kernel
theorem dX11_heard_45 : decode cX11_heard 45 = .ok (.iload_n 2, 1) := by decide +kernel
theorem dX11_heard_46 : decode cX11_heard 46 = .ok (.iconst 2, 1) := by decide +kernel
theorem dX11_heard_47 : decode cX11_heard 47 = .ok (.idiv, 1) := by decide +kernel
theorem dX11_heard_48 : decode cX11_heard 48 = .ok (.if_icmp .ge 92, 3) := by decide +kernel
theorem dX11_heard_51 : decode cX11_heard 51 = .ok (.aload_n 0, 1) := by decide +kernel
theorem dX11_heard_52 : decode cX11_heard 52 = .ok (.getfield 64, 3) := by decide +kernel
theorem dX11_heard_55 : decode cX11_heard 55 = .ok (.bipush 40, 2) := by decide +kernel
theorem dX11_heard_57 : decode cX11_heard 57 = .ok (.iload_n 1, 1) := by decide +kernel
theorem dX11_heard_58 : decode cX11_heard 58 = .ok (.imul, 1) := by decide +kernel
theorem dX11_heard_59 : decode cX11_heard 59 = .ok (.iconst 2, 1) := by decide +kernel
theorem dX11_heard_60 : decode cX11_heard 60 = .ok (.iload_n 3, 1) := by decide +kernel
theorem dX11_heard_61 : decode cX11_heard 61 = .ok (.imul, 1) := by decide +kernel
theorem dX11_heard_62 : decode cX11_heard 62 = .ok (.iadd, 1) := by decide +kernel
theorem dX11_heard_63 : decode cX11_heard 63 = .ok (.iaload, 1) := by decide +kernel
theorem dX11_heard_64 : decode cX11_heard 64 = .ok (.istore 4, 2) := by decide +kernel
theorem dX11_heard_66 : decode cX11_heard 66 = .ok (.aload_n 0, 1) := by decide +kernel
theorem dX11_heard_67 : decode cX11_heard 67 = .ok (.getfield 64, 3) := by decide +kernel
theorem dX11_heard_70 : decode cX11_heard 70 = .ok (.bipush 40, 2) := by decide +kernel
theorem dX11_heard_72 : decode cX11_heard 72 = .ok (.iload_n 1, 1) := by decide +kernel
theorem dX11_heard_73 : decode cX11_heard 73 = .ok (.imul, 1) := by decide +kernel
theorem dX11_heard_74 : decode cX11_heard 74 = .ok (.iconst 2, 1) := by decide +kernel
theorem dX11_heard_75 : decode cX11_heard 75 = .ok (.iload_n 3, 1) := by decide +kernel
theorem dX11_heard_76 : decode cX11_heard 76 = .ok (.imul, 1) := by decide +kernel
theorem dX11_heard_77 : decode cX11_heard 77 = .ok (.iadd, 1) := by decide +kernel
theorem dX11_heard_78 : decode cX11_heard 78 = .ok (.iconst 1, 1) := by decide +kernel
theorem dX11_heard_79 : decode cX11_heard 79 = .ok (.iadd, 1) := by decide +kernel
theorem dX11_heard_80 : decode cX11_heard 80 = .ok (.iaload, 1) := by decide +kernel
theorem dX11_heard_81 : decode cX11_heard 81 = .ok (.istore 5, 2) := by decide +kernel
theorem dX11_heard_83 : decode cX11_heard 83 = .ok (.aload_n 0, 1) := by decide +kernel
theorem dX11_heard_84 : decode cX11_heard 84 = .ok (.iload 4, 2) := by decide +kernel
theorem dX11_heard_86 : decode cX11_heard 86 = .ok (.invokevirtual 112, 3) := by decide +kernel
theorem dX11_heard_89 : decode cX11_heard 89 = .ok (.ifCond .eq 43, 3) := by decide +kernel
theorem dX11_heard_92 : decode cX11_heard 92 = .ok (.iload 5, 2) := by decide +kernel
theorem dX11_heard_94 : decode cX11_heard 94 = .ok (.iconst 0, 1) := by decide +kernel
theorem dX11_heard_95 : decode cX11_heard 95 = .ok (.iconst 1, 1) := by decide +kernel
theorem dX11_heard_96 : decode cX11_heard 96 = .ok (.invokestatic 102, 3) := by decide +kernel
theorem dX11_heard_99 : decode cX11_heard 99 = .ok (.ifCond .eq 33, 3) := by decide +kernel
theorem dX11_heard_102 : decode cX11_heard 102 = .ok (.aload_n 0, 1) := by decide +kernel
theorem dX11_heard_103 : decode cX11_heard 103 = .ok (.getfield 25, 3) := by decide +kernel
theorem dX11_heard_106 : decode cX11_heard 106 = .ok (.iload 4, 2) := by decide +kernel
theorem dX11_heard_108 : decode cX11_heard 108 = .ok (.iaload, 1) := by decide +kernel
theorem dX11_heard_109 : decode cX11_heard 109 = .ok (.ifCond .ne 23, 3) := by decide +kernel
theorem dX11_heard_112 : decode cX11_heard 112 = .ok (.aload_n 0, 1) := by decide +kernel
theorem dX11_heard_113 : decode cX11_heard 113 = .ok (.iload 4, 2) := by decide +kernel
theorem dX11_heard_115 : decode cX11_heard 115 = .ok (.invokevirtual 151, 3) := by decide +kernel
theorem dX11_heard_118 : decode cX11_heard 118 = .ok (.iload 5, 2) := by decide +kernel
theorem dX11_heard_120 : decode cX11_heard 120 = .ok (.iconst 1, 1) := by decide +kernel
theorem dX11_heard_121 : decode cX11_heard 121 = .ok (.if_icmp .ne 7, 3) := by decide +kernel
theorem dX11_heard_124 : decode cX11_heard 124 = .ok (.iconst 1, 1) := by decide +kernel
theorem dX11_heard_125 : decode cX11_heard 125 = .ok (.goto 4, 3) := by decide +kernel
theorem dX11_heard_128 : decode cX11_heard 128 = .ok (.iconst 0, 1) := by decide +kernel
theorem dX11_heard_129 : decode cX11_heard 129 = .ok (.if_icmp .eq 5, 3) := by decide +kernel
theorem dX11_heard_132 : decode cX11_heard 132 = .ok (.iload_n 3, 1) := by decide +kernel
theorem dX11_heard_133 : decode cX11_heard 133 = .ok (.ireturn, 1) := by decide +kernel
theorem dX11_heard_134 : decode cX11_heard 134 = .ok (.iinc 3 1, 3) := by decide +kernel
theorem dX11_heard_137 : decode cX11_heard 137 = .ok (.goto (-93), 3) := by decide +kernel
theorem dX11_heard_140 : decode cX11_heard 140 = .ok (.iconst (-1), 1) := by decide +kernel
theorem dX11_heard_141 : decode cX11_heard 141 = .ok (.ireturn, 1) := by decide +kernel
theorem dX11_where_0 : decode cX11_where 0 = .ok (.aload_n 0, 1) := by decide +kernel
theorem dX11_where_1 : decode cX11_where 1 = .ok (.iload_n 1, 1) := by decide +kernel
theorem dX11_where_2 : decode cX11_where 2 = .ok (.invokevirtual 112, 3) := by decide +kernel
theorem dX11_where_5 : decode cX11_where 5 = .ok (.ifCond .eq 12, 3) := by decide +kernel
theorem dX11_where_8 : decode cX11_where 8 = .ok (.iload_n 2, 1) := by decide +kernel
theorem dX11_where_9 : decode cX11_where 9 = .ok (.iconst 0, 1) := by decide +kernel
theorem dX11_where_10 : decode cX11_where 10 = .ok (.iconst 5, 1) := by decide +kernel
theorem dX11_where_11 : decode cX11_where 11 = .ok (.invokestatic 102, 3) := by decide +kernel
theorem dX11_where_14 : decode cX11_where 14 = .ok (.ifCond .ne 6, 3) := by decide +kernel
theorem dX11_where_17 : decode cX11_where 17 = .ok (.bipush (-2), 2) := by decide +kernel
theorem dX11_where_19 : decode cX11_where 19 = .ok (.ireturn, 1) := by decide +kernel
theorem dX11_where_20 : decode cX11_where 20 = .ok (.iconst 0, 1) := by decide +kernel
theorem dX11_where_21 : decode cX11_where 21 = .ok (.istore_n 3, 1) := by decide +kernel
theorem dX11_where_22 : decode cX11_where 22 = .ok (.iconst 0, 1) := by decide +kernel
theorem dX11_where_23 : decode cX11_where 23 = .ok (.istore 4, 2) := by decide +kernel
theorem dX11_where_25 : decode cX11_where 25 = .ok (.iload 4, 2) := by decide +kernel
theorem dX11_where_27 : decode cX11_where 27 = .ok (.bipush 8, 2) := by decide +kernel
theorem dX11_where_29 : decode cX11_where 29 = .ok (.if_icmp .ge 35, 3) := by decide +kernel
theorem dX11_where_32 : decode cX11_where 32 = .ok (.aload_n 0, 1) := by decide +kernel
theorem dX11_where_33 : decode cX11_where 33 = .ok (.iload_n 1, 1) := by decide +kernel
theorem dX11_where_34 : decode cX11_where 34 = .ok (.bipush 8, 2) := by decide +kernel
theorem dX11_where_36 : decode cX11_where 36 = .ok (.iload_n 2, 1) := by decide +kernel
theorem dX11_where_37 : decode cX11_where 37 = .ok (.imul, 1) := by decide +kernel
theorem dX11_where_38 : decode cX11_where 38 = .ok (.iload 4, 2) := by decide +kernel
theorem dX11_where_40 : decode cX11_where 40 = .ok (.iadd, 1) := by decide +kernel
theorem dX11_where_41 : decode cX11_where 41 = .ok (.aload_n 0, 1) := by decide +kernel
theorem dX11_where_42 : decode cX11_where 42 = .ok (.getfield 142, 3) := by decide +kernel
theorem dX11_where_45 : decode cX11_where 45 = .ok (.invokevirtual 145, 3) := by decide +kernel
theorem dX11_where_48 : decode cX11_where 48 = .ok (.ifCond .eq 10, 3) := by decide +kernel
theorem dX11_where_51 : decode cX11_where 51 = .ok (.iload_n 3, 1) := by decide +kernel
theorem dX11_where_52 : decode cX11_where 52 = .ok (.iconst 1, 1) := by decide +kernel
theorem dX11_where_53 : decode cX11_where 53 = .ok (.iload 4, 2) := by decide +kernel
theorem dX11_where_55 : decode cX11_where 55 = .ok (.ishl, 1) := by decide +kernel
theorem dX11_where_56 : decode cX11_where 56 = .ok (.ior, 1) := by decide +kernel
theorem dX11_where_57 : decode cX11_where 57 = .ok (.istore_n 3, 1) := by decide +kernel
theorem dX11_where_58 : decode cX11_where 58 = .ok (.iinc 4 1, 3) := by decide +kernel
theorem dX11_where_61 : decode cX11_where 61 = .ok (.goto (-36), 3) := by decide +kernel
theorem dX11_where_64 : decode cX11_where 64 = .ok (.iload_n 3, 1) := by decide +kernel
theorem dX11_where_65 : decode cX11_where 65 = .ok (.ireturn, 1) := by decide +kernel
theorem dX11_drawn_0 : decode cX11_drawn 0 = .ok (.aload_n 0, 1) := by decide +kernel
theorem dX11_drawn_1 : decode cX11_drawn 1 = .ok (.getfield 116, 3) := by decide +kernel
theorem dX11_drawn_4 : decode cX11_drawn 4 = .ok (.istore_n 2, 1) := by decide +kernel
theorem dX11_drawn_5 : decode cX11_drawn 5 = .ok (.aload_n 0, 1) := by decide +kernel
theorem dX11_drawn_6 : decode cX11_drawn 6 = .ok (.iload_n 1, 1) := by decide +kernel
theorem dX11_drawn_7 : decode cX11_drawn 7 = .ok (.ldc_w 283, 3) := by decide +kernel
theorem dX11_drawn_10 : decode cX11_drawn 10 = .ok (.imul, 1) := by decide +kernel
theorem dX11_drawn_11 : decode cX11_drawn 11 = .ok (.sipush 12345, 3) := by decide +kernel
theorem dX11_drawn_14 : decode cX11_drawn 14 = .ok (.iadd, 1) := by decide +kernel
theorem dX11_drawn_15 : decode cX11_drawn 15 = .ok (.bipush 10, 2) := by decide +kernel
theorem dX11_drawn_17 : decode cX11_drawn 17 = .ok (.iushr, 1) := by decide +kernel
theorem dX11_drawn_18 : decode cX11_drawn 18 = .ok (.bipush 10, 2) := by decide +kernel
theorem dX11_drawn_20 : decode cX11_drawn 20 = .ok (.irem, 1) := by decide +kernel
theorem dX11_drawn_21 : decode cX11_drawn 21 = .ok (.putfield 116, 3) := by decide +kernel
theorem dX11_drawn_24 : decode cX11_drawn 24 = .ok (.iconst 0, 1) := by decide +kernel
theorem dX11_drawn_25 : decode cX11_drawn 25 = .ok (.istore_n 3, 1) := by decide +kernel
theorem dX11_drawn_26 : decode cX11_drawn 26 = .ok (.iconst 0, 1) := by decide +kernel
theorem dX11_drawn_27 : decode cX11_drawn 27 = .ok (.istore 4, 2) := by decide +kernel
theorem dX11_drawn_29 : decode cX11_drawn 29 = .ok (.iload 4, 2) := by decide +kernel
theorem dX11_drawn_31 : decode cX11_drawn 31 = .ok (.aload_n 0, 1) := by decide +kernel
theorem dX11_drawn_32 : decode cX11_drawn 32 = .ok (.getfield 99, 3) := by decide +kernel
theorem dX11_drawn_35 : decode cX11_drawn 35 = .ok (.if_icmp .ge 31, 3) := by decide +kernel
theorem dX11_drawn_38 : decode cX11_drawn 38 = .ok (.aload_n 0, 1) := by decide +kernel
theorem dX11_drawn_39 : decode cX11_drawn 39 = .ok (.getfield 25, 3) := by decide +kernel
theorem dX11_drawn_42 : decode cX11_drawn 42 = .ok (.iload 4, 2) := by decide +kernel
theorem dX11_drawn_44 : decode cX11_drawn 44 = .ok (.iaload, 1) := by decide +kernel
theorem dX11_drawn_45 : decode cX11_drawn 45 = .ok (.ifCond .ne 15, 3) := by decide +kernel
theorem dX11_drawn_48 : decode cX11_drawn 48 = .ok (.aload_n 0, 1) := by decide +kernel
theorem dX11_drawn_49 : decode cX11_drawn 49 = .ok (.iload 4, 2) := by decide +kernel
theorem dX11_drawn_51 : decode cX11_drawn 51 = .ok (.invokevirtual 151, 3) := by decide +kernel
theorem dX11_drawn_54 : decode cX11_drawn 54 = .ok (.ifCond .eq 6, 3) := by decide +kernel
theorem dX11_drawn_57 : decode cX11_drawn 57 = .ok (.iinc 3 1, 3) := by decide +kernel
theorem dX11_drawn_60 : decode cX11_drawn 60 = .ok (.iinc 4 1, 3) := by decide +kernel
theorem dX11_drawn_63 : decode cX11_drawn 63 = .ok (.goto (-34), 3) := by decide +kernel
theorem dX11_drawn_66 : decode cX11_drawn 66 = .ok (.aload_n 0, 1) := by decide +kernel
theorem dX11_drawn_67 : decode cX11_drawn 67 = .ok (.iload_n 2, 1) := by decide +kernel
theorem dX11_drawn_68 : decode cX11_drawn 68 = .ok (.putfield 116, 3) := by decide +kernel
theorem dX11_drawn_71 : decode cX11_drawn 71 = .ok (.iload_n 3, 1) := by decide +kernel
theorem dX11_drawn_72 : decode cX11_drawn 72 = .ok (.ireturn, 1) := by decide +kernel
theorem dX11_lowest_0 : decode cX11_lowest 0 = .ok (.lload_n 0, 1) := by decide +kernel
theorem dX11_lowest_1 : decode cX11_lowest 1 = .ok (.lstore 5, 2) := by decide +kernel
theorem dX11_lowest_3 : decode cX11_lowest 3 = .ok (.lload_n 2, 1) := by decide +kernel
theorem dX11_lowest_4 : decode cX11_lowest 4 = .ok (.lstore 7, 2) := by decide +kernel
theorem dX11_lowest_6 : decode cX11_lowest 6 = .ok (.lload 7, 2) := by decide +kernel
theorem dX11_lowest_8 : decode cX11_lowest 8 = .ok (.lconst 0, 1) := by decide +kernel
theorem dX11_lowest_9 : decode cX11_lowest 9 = .ok (.lcmp, 1) := by decide +kernel
theorem dX11_lowest_10 : decode cX11_lowest 10 = .ok (.ifCond .eq 21, 3) := by decide +kernel
theorem dX11_lowest_13 : decode cX11_lowest 13 = .ok (.lload 5, 2) := by decide +kernel
theorem dX11_lowest_15 : decode cX11_lowest 15 = .ok (.lload 7, 2) := by decide +kernel
theorem dX11_lowest_17 : decode cX11_lowest 17 = .ok (.lrem, 1) := by decide +kernel
theorem dX11_lowest_18 : decode cX11_lowest 18 = .ok (.lstore 9, 2) := by decide +kernel
theorem dX11_lowest_20 : decode cX11_lowest 20 = .ok (.lload 7, 2) := by decide +kernel
theorem dX11_lowest_22 : decode cX11_lowest 22 = .ok (.lstore 5, 2) := by decide +kernel
theorem dX11_lowest_24 : decode cX11_lowest 24 = .ok (.lload 9, 2) := by decide +kernel
theorem dX11_lowest_26 : decode cX11_lowest 26 = .ok (.lstore 7, 2) := by decide +kernel
theorem dX11_lowest_28 : decode cX11_lowest 28 = .ok (.goto (-22), 3) := by decide +kernel
theorem dX11_lowest_31 : decode cX11_lowest 31 = .ok (.iload 4, 2) := by decide +kernel
theorem dX11_lowest_33 : decode cX11_lowest 33 = .ok (.ifCond .ne 10, 3) := by decide +kernel
theorem dX11_lowest_36 : decode cX11_lowest 36 = .ok (.lload_n 0, 1) := by decide +kernel
theorem dX11_lowest_37 : decode cX11_lowest 37 = .ok (.lload 5, 2) := by decide +kernel
theorem dX11_lowest_39 : decode cX11_lowest 39 = .ok (.ldiv, 1) := by decide +kernel
theorem dX11_lowest_40 : decode cX11_lowest 40 = .ok (.goto 7, 3) := by decide +kernel
theorem dX11_lowest_43 : decode cX11_lowest 43 = .ok (.lload_n 2, 1) := by decide +kernel
theorem dX11_lowest_44 : decode cX11_lowest 44 = .ok (.lload 5, 2) := by decide +kernel
theorem dX11_lowest_46 : decode cX11_lowest 46 = .ok (.ldiv, 1) := by decide +kernel
theorem dX11_lowest_47 : decode cX11_lowest 47 = .ok (.lreturn, 1) := by decide +kernel
theorem dX11_chance_0 : decode cX11_chance 0 = .ok (.iload_n 2, 1) := by decide +kernel
theorem dX11_chance_1 : decode cX11_chance 1 = .ok (.iconst 1, 1) := by decide +kernel
theorem dX11_chance_2 : decode cX11_chance 2 = .ok (.bipush 20, 2) := by decide +kernel
theorem dX11_chance_4 : decode cX11_chance 4 = .ok (.invokestatic 102, 3) := by decide +kernel
theorem dX11_chance_7 : decode cX11_chance 7 = .ok (.ifCond .eq 12, 3) := by decide +kernel
theorem dX11_chance_10 : decode cX11_chance 10 = .ok (.iload_n 3, 1) := by decide +kernel
theorem dX11_chance_11 : decode cX11_chance 11 = .ok (.iconst 0, 1) := by decide +kernel
theorem dX11_chance_12 : decode cX11_chance 12 = .ok (.iconst 1, 1) := by decide +kernel
theorem dX11_chance_13 : decode cX11_chance 13 = .ok (.invokestatic 102, 3) := by decide +kernel
theorem dX11_chance_16 : decode cX11_chance 16 = .ok (.ifCond .ne 7, 3) := by decide +kernel
theorem dX11_chance_19 : decode cX11_chance 19 = .ok (.ldc2_w 284, 3) := by decide +kernel
theorem dX11_chance_22 : decode cX11_chance 22 = .ok (.lreturn, 1) := by decide +kernel
theorem dX11_chance_23 : decode cX11_chance 23 = .ok (.iconst 0, 1) := by decide +kernel
theorem dX11_chance_24 : decode cX11_chance 24 = .ok (.istore 4, 2) := by decide +kernel
theorem dX11_chance_26 : decode cX11_chance 26 = .ok (.iconst 0, 1) := by decide +kernel
theorem dX11_chance_27 : decode cX11_chance 27 = .ok (.istore 5, 2) := by decide +kernel
theorem dX11_chance_29 : decode cX11_chance 29 = .ok (.iload 5, 2) := by decide +kernel
theorem dX11_chance_31 : decode cX11_chance 31 = .ok (.aload_n 0, 1) := by decide +kernel
theorem dX11_chance_32 : decode cX11_chance 32 = .ok (.getfield 99, 3) := by decide +kernel
theorem dX11_chance_35 : decode cX11_chance 35 = .ok (.if_icmp .ge 22, 3) := by decide +kernel
theorem dX11_chance_38 : decode cX11_chance 38 = .ok (.aload_n 0, 1) := by decide +kernel
theorem dX11_chance_39 : decode cX11_chance 39 = .ok (.getfield 25, 3) := by decide +kernel
theorem dX11_chance_42 : decode cX11_chance 42 = .ok (.iload 5, 2) := by decide +kernel
theorem dX11_chance_44 : decode cX11_chance 44 = .ok (.iaload, 1) := by decide +kernel
theorem dX11_chance_45 : decode cX11_chance 45 = .ok (.ifCond .ne 6, 3) := by decide +kernel
theorem dX11_chance_48 : decode cX11_chance 48 = .ok (.iinc 4 1, 3) := by decide +kernel
theorem dX11_chance_51 : decode cX11_chance 51 = .ok (.iinc 5 1, 3) := by decide +kernel
theorem dX11_chance_54 : decode cX11_chance 54 = .ok (.goto (-25), 3) := by decide +kernel
theorem dX11_chance_57 : decode cX11_chance 57 = .ok (.iconst 0, 1) := by decide +kernel
theorem dX11_chance_58 : decode cX11_chance 58 = .ok (.istore 5, 2) := by decide +kernel
theorem dX11_chance_60 : decode cX11_chance 60 = .ok (.iconst 0, 1) := by decide +kernel
theorem dX11_chance_61 : decode cX11_chance 61 = .ok (.istore 6, 2) := by decide +kernel
theorem dX11_chance_63 : decode cX11_chance 63 = .ok (.iload 6, 2) := by decide +kernel
theorem dX11_chance_65 : decode cX11_chance 65 = .ok (.iload_n 2, 1) := by decide +kernel
theorem dX11_chance_66 : decode cX11_chance 66 = .ok (.if_icmp .ge 25, 3) := by decide +kernel
theorem dX11_chance_69 : decode cX11_chance 69 = .ok (.aload_n 0, 1) := by decide +kernel
theorem dX11_chance_70 : decode cX11_chance 70 = .ok (.iload_n 1, 1) := by decide +kernel
theorem dX11_chance_71 : decode cX11_chance 71 = .ok (.iload 6, 2) := by decide +kernel
theorem dX11_chance_73 : decode cX11_chance 73 = .ok (.iadd, 1) := by decide +kernel
theorem dX11_chance_74 : decode cX11_chance 74 = .ok (.invokevirtual 286, 3) := by decide +kernel
theorem dX11_chance_77 : decode cX11_chance 77 = .ok (.iload 4, 2) := by decide +kernel
theorem dX11_chance_79 : decode cX11_chance 79 = .ok (.if_icmp .ne 6, 3) := by decide +kernel
theorem dX11_chance_82 : decode cX11_chance 82 = .ok (.iinc 5 1, 3) := by decide +kernel
theorem dX11_chance_85 : decode cX11_chance 85 = .ok (.iinc 6 1, 3) := by decide +kernel
theorem dX11_chance_88 : decode cX11_chance 88 = .ok (.goto (-25), 3) := by decide +kernel
theorem dX11_chance_91 : decode cX11_chance 91 = .ok (.iload 5, 2) := by decide +kernel
theorem dX11_chance_93 : decode cX11_chance 93 = .ok (.i2l, 1) := by decide +kernel
theorem dX11_chance_94 : decode cX11_chance 94 = .ok (.iload_n 2, 1) := by decide +kernel
theorem dX11_chance_95 : decode cX11_chance 95 = .ok (.i2l, 1) := by decide +kernel
theorem dX11_chance_96 : decode cX11_chance 96 = .ok (.iload_n 3, 1) := by decide +kernel
theorem dX11_chance_97 : decode cX11_chance 97 = .ok (.invokestatic 289, 3) := by decide +kernel
theorem dX11_chance_100 : decode cX11_chance 100 = .ok (.lreturn, 1) := by decide +kernel
theorem dX11_image_0 : decode cX11_image 0 = .ok (.aload_n 0, 1) := by decide +kernel
theorem dX11_image_1 : decode cX11_image 1 = .ok (.iconst 1, 1) := by decide +kernel
theorem dX11_image_2 : decode cX11_image 2 = .ok (.putfield 293, 3) := by decide +kernel
theorem dX11_image_5 : decode cX11_image 5 = .ok (.aload_n 0, 1) := by decide +kernel
theorem dX11_image_6 : decode cX11_image 6 = .ok (.aload_n 0, 1) := by decide +kernel
theorem dX11_image_7 : decode cX11_image 7 = .ok (.getfield 99, 3) := by decide +kernel
theorem dX11_image_10 : decode cX11_image 10 = .ok (.putfield 297, 3) := by decide +kernel
theorem dX11_image_13 : decode cX11_image 13 = .ok (.iconst 0, 1) := by decide +kernel
theorem dX11_image_14 : decode cX11_image 14 = .ok (.istore_n 1, 1) := by decide +kernel
theorem dX11_image_15 : decode cX11_image 15 = .ok (.iload_n 1, 1) := by decide +kernel
theorem dX11_image_16 : decode cX11_image 16 = .ok (.aload_n 0, 1) := by decide +kernel
theorem dX11_image_17 : decode cX11_image 17 = .ok (.getfield 99, 3) := by decide +kernel
theorem dX11_image_20 : decode cX11_image 20 = .ok (.if_icmp .ge 109, 3) := by decide +kernel
theorem dX11_image_23 : decode cX11_image 23 = .ok (.aload_n 0, 1) := by decide +kernel
theorem dX11_image_24 : decode cX11_image 24 = .ok (.getfield 55, 3) := by decide +kernel
theorem dX11_image_27 : decode cX11_image 27 = .ok (.bipush 6, 2) := by decide +kernel
theorem dX11_image_29 : decode cX11_image 29 = .ok (.iload_n 1, 1) := by decide +kernel
theorem dX11_image_30 : decode cX11_image 30 = .ok (.imul, 1) := by decide +kernel
theorem dX11_image_31 : decode cX11_image 31 = .ok (.aload_n 0, 1) := by decide +kernel
theorem dX11_image_32 : decode cX11_image 32 = .ok (.getfield 16, 3) := by decide +kernel
theorem dX11_image_35 : decode cX11_image 35 = .ok (.iload_n 1, 1) := by decide +kernel
theorem dX11_image_36 : decode cX11_image 36 = .ok (.iaload, 1) := by decide +kernel
theorem dX11_image_37 : decode cX11_image 37 = .ok (.iastore, 1) := by decide +kernel
theorem dX11_image_38 : decode cX11_image 38 = .ok (.aload_n 0, 1) := by decide +kernel
theorem dX11_image_39 : decode cX11_image 39 = .ok (.getfield 55, 3) := by decide +kernel
theorem dX11_image_42 : decode cX11_image 42 = .ok (.bipush 6, 2) := by decide +kernel
theorem dX11_image_44 : decode cX11_image 44 = .ok (.iload_n 1, 1) := by decide +kernel
theorem dX11_image_45 : decode cX11_image 45 = .ok (.imul, 1) := by decide +kernel
theorem dX11_image_46 : decode cX11_image 46 = .ok (.iconst 1, 1) := by decide +kernel
theorem dX11_image_47 : decode cX11_image 47 = .ok (.iadd, 1) := by decide +kernel
theorem dX11_image_48 : decode cX11_image 48 = .ok (.aload_n 0, 1) := by decide +kernel
theorem dX11_image_49 : decode cX11_image 49 = .ok (.getfield 19, 3) := by decide +kernel
theorem dX11_image_52 : decode cX11_image 52 = .ok (.iload_n 1, 1) := by decide +kernel
theorem dX11_image_53 : decode cX11_image 53 = .ok (.iaload, 1) := by decide +kernel
theorem dX11_image_54 : decode cX11_image 54 = .ok (.iastore, 1) := by decide +kernel
theorem dX11_image_55 : decode cX11_image 55 = .ok (.aload_n 0, 1) := by decide +kernel
theorem dX11_image_56 : decode cX11_image 56 = .ok (.getfield 55, 3) := by decide +kernel
theorem dX11_image_59 : decode cX11_image 59 = .ok (.bipush 6, 2) := by decide +kernel
theorem dX11_image_61 : decode cX11_image 61 = .ok (.iload_n 1, 1) := by decide +kernel
theorem dX11_image_62 : decode cX11_image 62 = .ok (.imul, 1) := by decide +kernel
theorem dX11_image_63 : decode cX11_image 63 = .ok (.iconst 2, 1) := by decide +kernel
theorem dX11_image_64 : decode cX11_image 64 = .ok (.iadd, 1) := by decide +kernel
theorem dX11_image_65 : decode cX11_image 65 = .ok (.aload_n 0, 1) := by decide +kernel
theorem dX11_image_66 : decode cX11_image 66 = .ok (.getfield 22, 3) := by decide +kernel
theorem dX11_image_69 : decode cX11_image 69 = .ok (.iload_n 1, 1) := by decide +kernel
theorem dX11_image_70 : decode cX11_image 70 = .ok (.iaload, 1) := by decide +kernel
theorem dX11_image_71 : decode cX11_image 71 = .ok (.iastore, 1) := by decide +kernel
theorem dX11_image_72 : decode cX11_image 72 = .ok (.aload_n 0, 1) := by decide +kernel
theorem dX11_image_73 : decode cX11_image 73 = .ok (.getfield 55, 3) := by decide +kernel
theorem dX11_image_76 : decode cX11_image 76 = .ok (.bipush 6, 2) := by decide +kernel
theorem dX11_image_78 : decode cX11_image 78 = .ok (.iload_n 1, 1) := by decide +kernel
theorem dX11_image_79 : decode cX11_image 79 = .ok (.imul, 1) := by decide +kernel
theorem dX11_image_80 : decode cX11_image 80 = .ok (.iconst 3, 1) := by decide +kernel
theorem dX11_image_81 : decode cX11_image 81 = .ok (.iadd, 1) := by decide +kernel
theorem dX11_image_82 : decode cX11_image 82 = .ok (.aload_n 0, 1) := by decide +kernel
theorem dX11_image_83 : decode cX11_image 83 = .ok (.getfield 13, 3) := by decide +kernel
theorem dX11_image_86 : decode cX11_image 86 = .ok (.iload_n 1, 1) := by decide +kernel
theorem dX11_image_87 : decode cX11_image 87 = .ok (.iaload, 1) := by decide +kernel
theorem dX11_image_88 : decode cX11_image 88 = .ok (.iastore, 1) := by decide +kernel
theorem dX11_image_89 : decode cX11_image 89 = .ok (.aload_n 0, 1) := by decide +kernel
theorem dX11_image_90 : decode cX11_image 90 = .ok (.getfield 55, 3) := by decide +kernel
theorem dX11_image_93 : decode cX11_image 93 = .ok (.bipush 6, 2) := by decide +kernel
theorem dX11_image_95 : decode cX11_image 95 = .ok (.iload_n 1, 1) := by decide +kernel
theorem dX11_image_96 : decode cX11_image 96 = .ok (.imul, 1) := by decide +kernel
theorem dX11_image_97 : decode cX11_image 97 = .ok (.iconst 4, 1) := by decide +kernel
theorem dX11_image_98 : decode cX11_image 98 = .ok (.iadd, 1) := by decide +kernel
theorem dX11_image_99 : decode cX11_image 99 = .ok (.aload_n 0, 1) := by decide +kernel
theorem dX11_image_100 : decode cX11_image 100 = .ok (.getfield 25, 3) := by decide +kernel
theorem dX11_image_103 : decode cX11_image 103 = .ok (.iload_n 1, 1) := by decide +kernel
theorem dX11_image_104 : decode cX11_image 104 = .ok (.iaload, 1) := by decide +kernel
theorem dX11_image_105 : decode cX11_image 105 = .ok (.iastore, 1) := by decide +kernel
theorem dX11_image_106 : decode cX11_image 106 = .ok (.aload_n 0, 1) := by decide +kernel
theorem dX11_image_107 : decode cX11_image 107 = .ok (.getfield 55, 3) := by decide +kernel
theorem dX11_image_110 : decode cX11_image 110 = .ok (.bipush 6, 2) := by decide +kernel
theorem dX11_image_112 : decode cX11_image 112 = .ok (.iload_n 1, 1) := by decide +kernel
theorem dX11_image_113 : decode cX11_image 113 = .ok (.imul, 1) := by decide +kernel
theorem dX11_image_114 : decode cX11_image 114 = .ok (.iconst 5, 1) := by decide +kernel
theorem dX11_image_115 : decode cX11_image 115 = .ok (.iadd, 1) := by decide +kernel
theorem dX11_image_116 : decode cX11_image 116 = .ok (.aload_n 0, 1) := by decide +kernel
theorem dX11_image_117 : decode cX11_image 117 = .ok (.getfield 28, 3) := by decide +kernel
theorem dX11_image_120 : decode cX11_image 120 = .ok (.iload_n 1, 1) := by decide +kernel
theorem dX11_image_121 : decode cX11_image 121 = .ok (.iaload, 1) := by decide +kernel
theorem dX11_image_122 : decode cX11_image 122 = .ok (.iastore, 1) := by decide +kernel
theorem dX11_image_123 : decode cX11_image 123 = .ok (.iinc 1 1, 3) := by decide +kernel
theorem dX11_image_126 : decode cX11_image 126 = .ok (.goto (-111), 3) := by decide +kernel
theorem dX11_image_129 : decode cX11_image 129 = .ok (.aload_n 0, 1) := by decide +kernel
theorem dX11_image_130 : decode cX11_image 130 = .ok (.getfield 55, 3) := by decide +kernel
theorem dX11_image_133 : decode cX11_image 133 = .ok (.bipush 42, 2) := by decide +kernel
theorem dX11_image_135 : decode cX11_image 135 = .ok (.aload_n 0, 1) := by decide +kernel
theorem dX11_image_136 : decode cX11_image 136 = .ok (.getfield 70, 3) := by decide +kernel
theorem dX11_image_139 : decode cX11_image 139 = .ok (.iastore, 1) := by decide +kernel
theorem dX11_image_140 : decode cX11_image 140 = .ok (.aload_n 0, 1) := by decide +kernel
theorem dX11_image_141 : decode cX11_image 141 = .ok (.getfield 55, 3) := by decide +kernel
theorem dX11_image_144 : decode cX11_image 144 = .ok (.bipush 43, 2) := by decide +kernel
theorem dX11_image_146 : decode cX11_image 146 = .ok (.aload_n 0, 1) := by decide +kernel
theorem dX11_image_147 : decode cX11_image 147 = .ok (.getfield 116, 3) := by decide +kernel
theorem dX11_image_150 : decode cX11_image 150 = .ok (.iastore, 1) := by decide +kernel
theorem dX11_image_151 : decode cX11_image 151 = .ok (.aload_n 0, 1) := by decide +kernel
theorem dX11_image_152 : decode cX11_image 152 = .ok (.getfield 55, 3) := by decide +kernel
theorem dX11_image_155 : decode cX11_image 155 = .ok (.bipush 44, 2) := by decide +kernel
theorem dX11_image_157 : decode cX11_image 157 = .ok (.aload_n 0, 1) := by decide +kernel
theorem dX11_image_158 : decode cX11_image 158 = .ok (.getfield 142, 3) := by decide +kernel
theorem dX11_image_161 : decode cX11_image 161 = .ok (.iastore, 1) := by decide +kernel
theorem dX11_image_162 : decode cX11_image 162 = .ok (.aload_n 0, 1) := by decide +kernel
theorem dX11_image_163 : decode cX11_image 163 = .ok (.getfield 55, 3) := by decide +kernel
theorem dX11_image_166 : decode cX11_image 166 = .ok (.bipush 45, 2) := by decide +kernel
theorem dX11_image_168 : decode cX11_image 168 = .ok (.aload_n 0, 1) := by decide +kernel
theorem dX11_image_169 : decode cX11_image 169 = .ok (.getfield 74, 3) := by decide +kernel
theorem dX11_image_172 : decode cX11_image 172 = .ok (.iastore, 1) := by decide +kernel
theorem dX11_image_173 : decode cX11_image 173 = .ok (.aload_n 0, 1) := by decide +kernel
theorem dX11_image_174 : decode cX11_image 174 = .ok (.getfield 55, 3) := by decide +kernel
theorem dX11_image_177 : decode cX11_image 177 = .ok (.bipush 46, 2) := by decide +kernel
theorem dX11_image_179 : decode cX11_image 179 = .ok (.aload_n 0, 1) := by decide +kernel
theorem dX11_image_180 : decode cX11_image 180 = .ok (.getfield 77, 3) := by decide +kernel
theorem dX11_image_183 : decode cX11_image 183 = .ok (.iastore, 1) := by decide +kernel
theorem dX11_image_184 : decode cX11_image 184 = .ok (.aload_n 0, 1) := by decide +kernel
theorem dX11_image_185 : decode cX11_image 185 = .ok (.getfield 55, 3) := by decide +kernel
theorem dX11_image_188 : decode cX11_image 188 = .ok (.bipush 47, 2) := by decide +kernel
theorem dX11_image_190 : decode cX11_image 190 = .ok (.aload_n 0, 1) := by decide +kernel
theorem dX11_image_191 : decode cX11_image 191 = .ok (.getfield 119, 3) := by decide +kernel
theorem dX11_image_194 : decode cX11_image 194 = .ok (.iastore, 1) := by decide +kernel
theorem dX11_image_195 : decode cX11_image 195 = .ok (.aload_n 0, 1) := by decide +kernel
theorem dX11_image_196 : decode cX11_image 196 = .ok (.getfield 55, 3) := by decide +kernel
theorem dX11_image_199 : decode cX11_image 199 = .ok (.bipush 48, 2) := by decide +kernel
theorem dX11_image_201 : decode cX11_image 201 = .ok (.aload_n 0, 1) := by decide +kernel
theorem dX11_image_202 : decode cX11_image 202 = .ok (.getfield 249, 3) := by decide +kernel
theorem dX11_image_205 : decode cX11_image 205 = .ok (.iastore, 1) := by decide +kernel
theorem dX11_image_206 : decode cX11_image 206 = .ok (.aload_n 0, 1) := by decide +kernel
theorem dX11_image_207 : decode cX11_image 207 = .ok (.getfield 55, 3) := by decide +kernel
theorem dX11_image_210 : decode cX11_image 210 = .ok (.bipush 49, 2) := by decide +kernel
theorem dX11_image_212 : decode cX11_image 212 = .ok (.aload_n 0, 1) := by decide +kernel
theorem dX11_image_213 : decode cX11_image 213 = .ok (.getfield 129, 3) := by decide +kernel
theorem dX11_image_216 : decode cX11_image 216 = .ok (.iastore, 1) := by decide +kernel
theorem dX11_image_217 : decode cX11_image 217 = .ok (.aload_n 0, 1) := by decide +kernel
theorem dX11_image_218 : decode cX11_image 218 = .ok (.getfield 99, 3) := by decide +kernel
theorem dX11_image_221 : decode cX11_image 221 = .ok (.ireturn, 1) := by decide +kernel
theorem dX11_back_0 : decode cX11_back 0 = .ok (.aload_n 0, 1) := by decide +kernel
theorem dX11_back_1 : decode cX11_back 1 = .ok (.getfield 293, 3) := by decide +kernel
theorem dX11_back_4 : decode cX11_back 4 = .ok (.ifCond .ne 6, 3) := by decide +kernel
theorem dX11_back_7 : decode cX11_back 7 = .ok (.bipush (-3), 2) := by decide +kernel
theorem dX11_back_9 : decode cX11_back 9 = .ok (.ireturn, 1) := by decide +kernel
theorem dX11_back_10 : decode cX11_back 10 = .ok (.aload_n 0, 1) := by decide +kernel
theorem dX11_back_11 : decode cX11_back 11 = .ok (.aload_n 0, 1) := by decide +kernel
theorem dX11_back_12 : decode cX11_back 12 = .ok (.getfield 297, 3) := by decide +kernel
theorem dX11_back_15 : decode cX11_back 15 = .ok (.putfield 99, 3) := by decide +kernel
theorem dX11_back_18 : decode cX11_back 18 = .ok (.iconst 0, 1) := by decide +kernel
theorem dX11_back_19 : decode cX11_back 19 = .ok (.istore_n 1, 1) := by decide +kernel
theorem dX11_back_20 : decode cX11_back 20 = .ok (.iload_n 1, 1) := by decide +kernel
theorem dX11_back_21 : decode cX11_back 21 = .ok (.aload_n 0, 1) := by decide +kernel
theorem dX11_back_22 : decode cX11_back 22 = .ok (.getfield 99, 3) := by decide +kernel
theorem dX11_back_25 : decode cX11_back 25 = .ok (.if_icmp .ge 109, 3) := by decide +kernel
theorem dX11_back_28 : decode cX11_back 28 = .ok (.aload_n 0, 1) := by decide +kernel
theorem dX11_back_29 : decode cX11_back 29 = .ok (.getfield 16, 3) := by decide +kernel
theorem dX11_back_32 : decode cX11_back 32 = .ok (.iload_n 1, 1) := by decide +kernel
theorem dX11_back_33 : decode cX11_back 33 = .ok (.aload_n 0, 1) := by decide +kernel
theorem dX11_back_34 : decode cX11_back 34 = .ok (.getfield 55, 3) := by decide +kernel
theorem dX11_back_37 : decode cX11_back 37 = .ok (.bipush 6, 2) := by decide +kernel
theorem dX11_back_39 : decode cX11_back 39 = .ok (.iload_n 1, 1) := by decide +kernel
theorem dX11_back_40 : decode cX11_back 40 = .ok (.imul, 1) := by decide +kernel
theorem dX11_back_41 : decode cX11_back 41 = .ok (.iaload, 1) := by decide +kernel
theorem dX11_back_42 : decode cX11_back 42 = .ok (.iastore, 1) := by decide +kernel
theorem dX11_back_43 : decode cX11_back 43 = .ok (.aload_n 0, 1) := by decide +kernel
theorem dX11_back_44 : decode cX11_back 44 = .ok (.getfield 19, 3) := by decide +kernel
theorem dX11_back_47 : decode cX11_back 47 = .ok (.iload_n 1, 1) := by decide +kernel
theorem dX11_back_48 : decode cX11_back 48 = .ok (.aload_n 0, 1) := by decide +kernel
theorem dX11_back_49 : decode cX11_back 49 = .ok (.getfield 55, 3) := by decide +kernel
theorem dX11_back_52 : decode cX11_back 52 = .ok (.bipush 6, 2) := by decide +kernel
theorem dX11_back_54 : decode cX11_back 54 = .ok (.iload_n 1, 1) := by decide +kernel
theorem dX11_back_55 : decode cX11_back 55 = .ok (.imul, 1) := by decide +kernel
theorem dX11_back_56 : decode cX11_back 56 = .ok (.iconst 1, 1) := by decide +kernel
theorem dX11_back_57 : decode cX11_back 57 = .ok (.iadd, 1) := by decide +kernel
theorem dX11_back_58 : decode cX11_back 58 = .ok (.iaload, 1) := by decide +kernel
theorem dX11_back_59 : decode cX11_back 59 = .ok (.iastore, 1) := by decide +kernel
theorem dX11_back_60 : decode cX11_back 60 = .ok (.aload_n 0, 1) := by decide +kernel
theorem dX11_back_61 : decode cX11_back 61 = .ok (.getfield 22, 3) := by decide +kernel
theorem dX11_back_64 : decode cX11_back 64 = .ok (.iload_n 1, 1) := by decide +kernel
theorem dX11_back_65 : decode cX11_back 65 = .ok (.aload_n 0, 1) := by decide +kernel
theorem dX11_back_66 : decode cX11_back 66 = .ok (.getfield 55, 3) := by decide +kernel
theorem dX11_back_69 : decode cX11_back 69 = .ok (.bipush 6, 2) := by decide +kernel
theorem dX11_back_71 : decode cX11_back 71 = .ok (.iload_n 1, 1) := by decide +kernel
theorem dX11_back_72 : decode cX11_back 72 = .ok (.imul, 1) := by decide +kernel
theorem dX11_back_73 : decode cX11_back 73 = .ok (.iconst 2, 1) := by decide +kernel
theorem dX11_back_74 : decode cX11_back 74 = .ok (.iadd, 1) := by decide +kernel
theorem dX11_back_75 : decode cX11_back 75 = .ok (.iaload, 1) := by decide +kernel
theorem dX11_back_76 : decode cX11_back 76 = .ok (.iastore, 1) := by decide +kernel
theorem dX11_back_77 : decode cX11_back 77 = .ok (.aload_n 0, 1) := by decide +kernel
theorem dX11_back_78 : decode cX11_back 78 = .ok (.getfield 13, 3) := by decide +kernel
theorem dX11_back_81 : decode cX11_back 81 = .ok (.iload_n 1, 1) := by decide +kernel
theorem dX11_back_82 : decode cX11_back 82 = .ok (.aload_n 0, 1) := by decide +kernel
theorem dX11_back_83 : decode cX11_back 83 = .ok (.getfield 55, 3) := by decide +kernel
theorem dX11_back_86 : decode cX11_back 86 = .ok (.bipush 6, 2) := by decide +kernel
theorem dX11_back_88 : decode cX11_back 88 = .ok (.iload_n 1, 1) := by decide +kernel
theorem dX11_back_89 : decode cX11_back 89 = .ok (.imul, 1) := by decide +kernel
theorem dX11_back_90 : decode cX11_back 90 = .ok (.iconst 3, 1) := by decide +kernel
theorem dX11_back_91 : decode cX11_back 91 = .ok (.iadd, 1) := by decide +kernel
theorem dX11_back_92 : decode cX11_back 92 = .ok (.iaload, 1) := by decide +kernel
theorem dX11_back_93 : decode cX11_back 93 = .ok (.iastore, 1) := by decide +kernel
theorem dX11_back_94 : decode cX11_back 94 = .ok (.aload_n 0, 1) := by decide +kernel
theorem dX11_back_95 : decode cX11_back 95 = .ok (.getfield 25, 3) := by decide +kernel
theorem dX11_back_98 : decode cX11_back 98 = .ok (.iload_n 1, 1) := by decide +kernel
theorem dX11_back_99 : decode cX11_back 99 = .ok (.aload_n 0, 1) := by decide +kernel
theorem dX11_back_100 : decode cX11_back 100 = .ok (.getfield 55, 3) := by decide +kernel
theorem dX11_back_103 : decode cX11_back 103 = .ok (.bipush 6, 2) := by decide +kernel
theorem dX11_back_105 : decode cX11_back 105 = .ok (.iload_n 1, 1) := by decide +kernel
theorem dX11_back_106 : decode cX11_back 106 = .ok (.imul, 1) := by decide +kernel
theorem dX11_back_107 : decode cX11_back 107 = .ok (.iconst 4, 1) := by decide +kernel
theorem dX11_back_108 : decode cX11_back 108 = .ok (.iadd, 1) := by decide +kernel
theorem dX11_back_109 : decode cX11_back 109 = .ok (.iaload, 1) := by decide +kernel
theorem dX11_back_110 : decode cX11_back 110 = .ok (.iastore, 1) := by decide +kernel
theorem dX11_back_111 : decode cX11_back 111 = .ok (.aload_n 0, 1) := by decide +kernel
theorem dX11_back_112 : decode cX11_back 112 = .ok (.getfield 28, 3) := by decide +kernel
theorem dX11_back_115 : decode cX11_back 115 = .ok (.iload_n 1, 1) := by decide +kernel
theorem dX11_back_116 : decode cX11_back 116 = .ok (.aload_n 0, 1) := by decide +kernel
theorem dX11_back_117 : decode cX11_back 117 = .ok (.getfield 55, 3) := by decide +kernel
theorem dX11_back_120 : decode cX11_back 120 = .ok (.bipush 6, 2) := by decide +kernel
theorem dX11_back_122 : decode cX11_back 122 = .ok (.iload_n 1, 1) := by decide +kernel
theorem dX11_back_123 : decode cX11_back 123 = .ok (.imul, 1) := by decide +kernel
theorem dX11_back_124 : decode cX11_back 124 = .ok (.iconst 5, 1) := by decide +kernel
theorem dX11_back_125 : decode cX11_back 125 = .ok (.iadd, 1) := by decide +kernel
theorem dX11_back_126 : decode cX11_back 126 = .ok (.iaload, 1) := by decide +kernel
theorem dX11_back_127 : decode cX11_back 127 = .ok (.iastore, 1) := by decide +kernel
theorem dX11_back_128 : decode cX11_back 128 = .ok (.iinc 1 1, 3) := by decide +kernel
theorem dX11_back_131 : decode cX11_back 131 = .ok (.goto (-111), 3) := by decide +kernel
theorem dX11_back_134 : decode cX11_back 134 = .ok (.aload_n 0, 1) := by decide +kernel
theorem dX11_back_135 : decode cX11_back 135 = .ok (.aload_n 0, 1) := by decide +kernel
theorem dX11_back_136 : decode cX11_back 136 = .ok (.getfield 55, 3) := by decide +kernel
theorem dX11_back_139 : decode cX11_back 139 = .ok (.bipush 42, 2) := by decide +kernel
theorem dX11_back_141 : decode cX11_back 141 = .ok (.iaload, 1) := by decide +kernel
theorem dX11_back_142 : decode cX11_back 142 = .ok (.putfield 70, 3) := by decide +kernel
theorem dX11_back_145 : decode cX11_back 145 = .ok (.aload_n 0, 1) := by decide +kernel
theorem dX11_back_146 : decode cX11_back 146 = .ok (.aload_n 0, 1) := by decide +kernel
theorem dX11_back_147 : decode cX11_back 147 = .ok (.getfield 55, 3) := by decide +kernel
theorem dX11_back_150 : decode cX11_back 150 = .ok (.bipush 43, 2) := by decide +kernel
theorem dX11_back_152 : decode cX11_back 152 = .ok (.iaload, 1) := by decide +kernel
theorem dX11_back_153 : decode cX11_back 153 = .ok (.putfield 116, 3) := by decide +kernel
theorem dX11_back_156 : decode cX11_back 156 = .ok (.aload_n 0, 1) := by decide +kernel
theorem dX11_back_157 : decode cX11_back 157 = .ok (.aload_n 0, 1) := by decide +kernel
theorem dX11_back_158 : decode cX11_back 158 = .ok (.getfield 55, 3) := by decide +kernel
theorem dX11_back_161 : decode cX11_back 161 = .ok (.bipush 44, 2) := by decide +kernel
theorem dX11_back_163 : decode cX11_back 163 = .ok (.iaload, 1) := by decide +kernel
theorem dX11_back_164 : decode cX11_back 164 = .ok (.putfield 142, 3) := by decide +kernel
theorem dX11_back_167 : decode cX11_back 167 = .ok (.aload_n 0, 1) := by decide +kernel
theorem dX11_back_168 : decode cX11_back 168 = .ok (.aload_n 0, 1) := by decide +kernel
theorem dX11_back_169 : decode cX11_back 169 = .ok (.getfield 55, 3) := by decide +kernel
theorem dX11_back_172 : decode cX11_back 172 = .ok (.bipush 45, 2) := by decide +kernel
theorem dX11_back_174 : decode cX11_back 174 = .ok (.iaload, 1) := by decide +kernel
theorem dX11_back_175 : decode cX11_back 175 = .ok (.putfield 74, 3) := by decide +kernel
theorem dX11_back_178 : decode cX11_back 178 = .ok (.aload_n 0, 1) := by decide +kernel
theorem dX11_back_179 : decode cX11_back 179 = .ok (.aload_n 0, 1) := by decide +kernel
theorem dX11_back_180 : decode cX11_back 180 = .ok (.getfield 55, 3) := by decide +kernel
theorem dX11_back_183 : decode cX11_back 183 = .ok (.bipush 46, 2) := by decide +kernel
theorem dX11_back_185 : decode cX11_back 185 = .ok (.iaload, 1) := by decide +kernel
theorem dX11_back_186 : decode cX11_back 186 = .ok (.putfield 77, 3) := by decide +kernel
theorem dX11_back_189 : decode cX11_back 189 = .ok (.aload_n 0, 1) := by decide +kernel
theorem dX11_back_190 : decode cX11_back 190 = .ok (.aload_n 0, 1) := by decide +kernel
theorem dX11_back_191 : decode cX11_back 191 = .ok (.getfield 55, 3) := by decide +kernel
theorem dX11_back_194 : decode cX11_back 194 = .ok (.bipush 47, 2) := by decide +kernel
theorem dX11_back_196 : decode cX11_back 196 = .ok (.iaload, 1) := by decide +kernel
theorem dX11_back_197 : decode cX11_back 197 = .ok (.putfield 119, 3) := by decide +kernel
theorem dX11_back_200 : decode cX11_back 200 = .ok (.aload_n 0, 1) := by decide +kernel
theorem dX11_back_201 : decode cX11_back 201 = .ok (.aload_n 0, 1) := by decide +kernel
theorem dX11_back_202 : decode cX11_back 202 = .ok (.getfield 55, 3) := by decide +kernel
theorem dX11_back_205 : decode cX11_back 205 = .ok (.bipush 48, 2) := by decide +kernel
theorem dX11_back_207 : decode cX11_back 207 = .ok (.iaload, 1) := by decide +kernel
theorem dX11_back_208 : decode cX11_back 208 = .ok (.putfield 249, 3) := by decide +kernel
theorem dX11_back_211 : decode cX11_back 211 = .ok (.aload_n 0, 1) := by decide +kernel
theorem dX11_back_212 : decode cX11_back 212 = .ok (.aload_n 0, 1) := by decide +kernel
theorem dX11_back_213 : decode cX11_back 213 = .ok (.getfield 55, 3) := by decide +kernel
theorem dX11_back_216 : decode cX11_back 216 = .ok (.bipush 49, 2) := by decide +kernel
theorem dX11_back_218 : decode cX11_back 218 = .ok (.iaload, 1) := by decide +kernel
theorem dX11_back_219 : decode cX11_back 219 = .ok (.putfield 129, 3) := by decide +kernel
theorem dX11_back_222 : decode cX11_back 222 = .ok (.aload_n 0, 1) := by decide +kernel
theorem dX11_back_223 : decode cX11_back 223 = .ok (.getfield 99, 3) := by decide +kernel
theorem dX11_back_226 : decode cX11_back 226 = .ok (.ireturn, 1) := by decide +kernel
theorem dX11_thoseWho_0 : decode cX11_thoseWho 0 = .ok (.iconst 0, 1) := by decide +kernel
theorem dX11_thoseWho_1 : decode cX11_thoseWho 1 = .ok (.istore_n 2, 1) := by decide +kernel
theorem dX11_thoseWho_2 : decode cX11_thoseWho 2 = .ok (.iconst 0, 1) := by decide +kernel
theorem dX11_thoseWho_3 : decode cX11_thoseWho 3 = .ok (.istore_n 3, 1) := by decide +kernel
theorem dX11_thoseWho_4 : decode cX11_thoseWho 4 = .ok (.iload_n 3, 1) := by decide +kernel
theorem dX11_thoseWho_5 : decode cX11_thoseWho 5 = .ok (.aload_n 0, 1) := by decide +kernel
theorem dX11_thoseWho_6 : decode cX11_thoseWho 6 = .ok (.getfield 99, 3) := by decide +kernel
theorem dX11_thoseWho_9 : decode cX11_thoseWho 9 = .ok (.if_icmp .ge 22, 3) := by decide +kernel
theorem dX11_thoseWho_12 : decode cX11_thoseWho 12 = .ok (.aload_n 0, 1) := by decide +kernel
theorem dX11_thoseWho_13 : decode cX11_thoseWho 13 = .ok (.getfield 25, 3) := by decide +kernel
theorem dX11_thoseWho_16 : decode cX11_thoseWho 16 = .ok (.iload_n 3, 1) := by decide +kernel
theorem dX11_thoseWho_17 : decode cX11_thoseWho 17 = .ok (.iaload, 1) := by decide +kernel
theorem dX11_thoseWho_18 : decode cX11_thoseWho 18 = .ok (.iload_n 1, 1) := by decide +kernel
theorem dX11_thoseWho_19 : decode cX11_thoseWho 19 = .ok (.if_icmp .ne 6, 3) := by decide +kernel
theorem dX11_thoseWho_22 : decode cX11_thoseWho 22 = .ok (.iinc 2 1, 3) := by decide +kernel
theorem dX11_thoseWho_25 : decode cX11_thoseWho 25 = .ok (.iinc 3 1, 3) := by decide +kernel
theorem dX11_thoseWho_28 : decode cX11_thoseWho 28 = .ok (.goto (-24), 3) := by decide +kernel
theorem dX11_thoseWho_31 : decode cX11_thoseWho 31 = .ok (.iload_n 2, 1) := by decide +kernel
theorem dX11_thoseWho_32 : decode cX11_thoseWho 32 = .ok (.ireturn, 1) := by decide +kernel
theorem dX11_count_0 : decode cX11_count 0 = .ok (.iload_n 1, 1) := by decide +kernel
theorem dX11_count_1 : decode cX11_count 1 = .ok (.tableswitch 108 0 9 #[55, 60, 66, 72, 78, 83, 88, 93, 98, 103], 55) := by decide +kernel
theorem dX11_count_56 : decode cX11_count 56 = .ok (.aload_n 0, 1) := by decide +kernel
theorem dX11_count_57 : decode cX11_count 57 = .ok (.getfield 99, 3) := by decide +kernel
theorem dX11_count_60 : decode cX11_count 60 = .ok (.ireturn, 1) := by decide +kernel
theorem dX11_count_61 : decode cX11_count 61 = .ok (.aload_n 0, 1) := by decide +kernel
theorem dX11_count_62 : decode cX11_count 62 = .ok (.iconst 0, 1) := by decide +kernel
theorem dX11_count_63 : decode cX11_count 63 = .ok (.invokevirtual 300, 3) := by decide +kernel
theorem dX11_count_66 : decode cX11_count 66 = .ok (.ireturn, 1) := by decide +kernel
theorem dX11_count_67 : decode cX11_count 67 = .ok (.aload_n 0, 1) := by decide +kernel
theorem dX11_count_68 : decode cX11_count 68 = .ok (.iconst 1, 1) := by decide +kernel
theorem dX11_count_69 : decode cX11_count 69 = .ok (.invokevirtual 300, 3) := by decide +kernel
theorem dX11_count_72 : decode cX11_count 72 = .ok (.ireturn, 1) := by decide +kernel
theorem dX11_count_73 : decode cX11_count 73 = .ok (.aload_n 0, 1) := by decide +kernel
theorem dX11_count_74 : decode cX11_count 74 = .ok (.iconst 2, 1) := by decide +kernel
theorem dX11_count_75 : decode cX11_count 75 = .ok (.invokevirtual 300, 3) := by decide +kernel
theorem dX11_count_78 : decode cX11_count 78 = .ok (.ireturn, 1) := by decide +kernel
theorem dX11_count_79 : decode cX11_count 79 = .ok (.aload_n 0, 1) := by decide +kernel
theorem dX11_count_80 : decode cX11_count 80 = .ok (.getfield 142, 3) := by decide +kernel
theorem dX11_count_83 : decode cX11_count 83 = .ok (.ireturn, 1) := by decide +kernel
theorem dX11_count_84 : decode cX11_count 84 = .ok (.aload_n 0, 1) := by decide +kernel
theorem dX11_count_85 : decode cX11_count 85 = .ok (.getfield 249, 3) := by decide +kernel
theorem dX11_count_88 : decode cX11_count 88 = .ok (.ireturn, 1) := by decide +kernel
theorem dX11_count_89 : decode cX11_count 89 = .ok (.aload_n 0, 1) := by decide +kernel
theorem dX11_count_90 : decode cX11_count 90 = .ok (.getfield 119, 3) := by decide +kernel
theorem dX11_count_93 : decode cX11_count 93 = .ok (.ireturn, 1) := by decide +kernel
theorem dX11_count_94 : decode cX11_count 94 = .ok (.aload_n 0, 1) := by decide +kernel
theorem dX11_count_95 : decode cX11_count 95 = .ok (.getfield 190, 3) := by decide +kernel
theorem dX11_count_98 : decode cX11_count 98 = .ok (.ireturn, 1) := by decide +kernel
theorem dX11_count_99 : decode cX11_count 99 = .ok (.aload_n 0, 1) := by decide +kernel
theorem dX11_count_100 : decode cX11_count 100 = .ok (.getfield 156, 3) := by decide +kernel
theorem dX11_count_103 : decode cX11_count 103 = .ok (.ireturn, 1) := by decide +kernel
theorem dX11_count_104 : decode cX11_count 104 = .ok (.aload_n 0, 1) := by decide +kernel
theorem dX11_count_105 : decode cX11_count 105 = .ok (.getfield 129, 3) := by decide +kernel
theorem dX11_count_108 : decode cX11_count 108 = .ok (.ireturn, 1) := by decide +kernel
theorem dX11_count_109 : decode cX11_count 109 = .ok (.bipush (-2), 2) := by decide +kernel
theorem dX11_count_111 : decode cX11_count 111 = .ok (.ireturn, 1) := by decide +kernel
theorem dX11_sheet_0 : decode cX11_sheet 0 = .ok (.iload_n 1, 1) := by decide +kernel
theorem dX11_sheet_1 : decode cX11_sheet 1 = .ok (.iconst 0, 1) := by decide +kernel
theorem dX11_sheet_2 : decode cX11_sheet 2 = .ok (.iconst 3, 1) := by decide +kernel
theorem dX11_sheet_3 : decode cX11_sheet 3 = .ok (.invokestatic 102, 3) := by decide +kernel
theorem dX11_sheet_6 : decode cX11_sheet 6 = .ok (.ifCond .eq 12, 3) := by decide +kernel
theorem dX11_sheet_9 : decode cX11_sheet 9 = .ok (.iload_n 2, 1) := by decide +kernel
theorem dX11_sheet_10 : decode cX11_sheet 10 = .ok (.iconst (-1), 1) := by decide +kernel
theorem dX11_sheet_11 : decode cX11_sheet 11 = .ok (.iconst 2, 1) := by decide +kernel
theorem dX11_sheet_12 : decode cX11_sheet 12 = .ok (.invokestatic 102, 3) := by decide +kernel
theorem dX11_sheet_15 : decode cX11_sheet 15 = .ok (.ifCond .ne 6, 3) := by decide +kernel
theorem dX11_sheet_18 : decode cX11_sheet 18 = .ok (.bipush (-2), 2) := by decide +kernel
theorem dX11_sheet_20 : decode cX11_sheet 20 = .ok (.ireturn, 1) := by decide +kernel
theorem dX11_sheet_21 : decode cX11_sheet 21 = .ok (.iload_n 2, 1) := by decide +kernel
theorem dX11_sheet_22 : decode cX11_sheet 22 = .ok (.iconst (-1), 1) := by decide +kernel
theorem dX11_sheet_23 : decode cX11_sheet 23 = .ok (.if_icmp .ne 12, 3) := by decide +kernel
theorem dX11_sheet_26 : decode cX11_sheet 26 = .ok (.aload_n 0, 1) := by decide +kernel
theorem dX11_sheet_27 : decode cX11_sheet 27 = .ok (.getfield 58, 3) := by decide +kernel
theorem dX11_sheet_30 : decode cX11_sheet 30 = .ok (.iload_n 1, 1) := by decide +kernel
theorem dX11_sheet_31 : decode cX11_sheet 31 = .ok (.iconst (-1), 1) := by decide +kernel
theorem dX11_sheet_32 : decode cX11_sheet 32 = .ok (.iastore, 1) := by decide +kernel
theorem dX11_sheet_33 : decode cX11_sheet 33 = .ok (.iconst 1, 1) := by decide +kernel
theorem dX11_sheet_34 : decode cX11_sheet 34 = .ok (.ireturn, 1) := by decide +kernel
theorem dX11_sheet_35 : decode cX11_sheet 35 = .ok (.iload_n 3, 1) := by decide +kernel
theorem dX11_sheet_36 : decode cX11_sheet 36 = .ok (.bipush 40, 2) := by decide +kernel
theorem dX11_sheet_38 : decode cX11_sheet 38 = .ok (.if_icmp .le 6, 3) := by decide +kernel
theorem dX11_sheet_41 : decode cX11_sheet 41 = .ok (.bipush (-2), 2) := by decide +kernel
theorem dX11_sheet_43 : decode cX11_sheet 43 = .ok (.ireturn, 1) := by decide +kernel
theorem dX11_sheet_44 : decode cX11_sheet 44 = .ok (.iload_n 3, 1) := by decide +kernel
theorem dX11_sheet_45 : decode cX11_sheet 45 = .ok (.ifCond .ge 6, 3) := by decide +kernel
theorem dX11_sheet_48 : decode cX11_sheet 48 = .ok (.bipush (-14), 2) := by decide +kernel
theorem dX11_sheet_50 : decode cX11_sheet 50 = .ok (.ireturn, 1) := by decide +kernel
theorem dX11_sheet_51 : decode cX11_sheet 51 = .ok (.aload_n 0, 1) := by decide +kernel
theorem dX11_sheet_52 : decode cX11_sheet 52 = .ok (.getfield 58, 3) := by decide +kernel
theorem dX11_sheet_55 : decode cX11_sheet 55 = .ok (.iload_n 1, 1) := by decide +kernel
theorem dX11_sheet_56 : decode cX11_sheet 56 = .ok (.iload_n 2, 1) := by decide +kernel
theorem dX11_sheet_57 : decode cX11_sheet 57 = .ok (.iastore, 1) := by decide +kernel
theorem dX11_sheet_58 : decode cX11_sheet 58 = .ok (.aload_n 0, 1) := by decide +kernel
theorem dX11_sheet_59 : decode cX11_sheet 59 = .ok (.getfield 61, 3) := by decide +kernel
theorem dX11_sheet_62 : decode cX11_sheet 62 = .ok (.iload_n 1, 1) := by decide +kernel
theorem dX11_sheet_63 : decode cX11_sheet 63 = .ok (.iload_n 3, 1) := by decide +kernel
theorem dX11_sheet_64 : decode cX11_sheet 64 = .ok (.iastore, 1) := by decide +kernel
theorem dX11_sheet_65 : decode cX11_sheet 65 = .ok (.iconst 0, 1) := by decide +kernel
theorem dX11_sheet_66 : decode cX11_sheet 66 = .ok (.istore 4, 2) := by decide +kernel
theorem dX11_sheet_68 : decode cX11_sheet 68 = .ok (.iload 4, 2) := by decide +kernel
theorem dX11_sheet_70 : decode cX11_sheet 70 = .ok (.bipush 40, 2) := by decide +kernel
theorem dX11_sheet_72 : decode cX11_sheet 72 = .ok (.if_icmp .ge 22, 3) := by decide +kernel
theorem dX11_sheet_75 : decode cX11_sheet 75 = .ok (.aload_n 0, 1) := by decide +kernel
theorem dX11_sheet_76 : decode cX11_sheet 76 = .ok (.getfield 64, 3) := by decide +kernel
theorem dX11_sheet_79 : decode cX11_sheet 79 = .ok (.bipush 40, 2) := by decide +kernel
theorem dX11_sheet_81 : decode cX11_sheet 81 = .ok (.iload_n 1, 1) := by decide +kernel
theorem dX11_sheet_82 : decode cX11_sheet 82 = .ok (.imul, 1) := by decide +kernel
theorem dX11_sheet_83 : decode cX11_sheet 83 = .ok (.iload 4, 2) := by decide +kernel
theorem dX11_sheet_85 : decode cX11_sheet 85 = .ok (.iadd, 1) := by decide +kernel
theorem dX11_sheet_86 : decode cX11_sheet 86 = .ok (.iconst 0, 1) := by decide +kernel
theorem dX11_sheet_87 : decode cX11_sheet 87 = .ok (.iastore, 1) := by decide +kernel
theorem dX11_sheet_88 : decode cX11_sheet 88 = .ok (.iinc 4 1, 3) := by decide +kernel
theorem dX11_sheet_91 : decode cX11_sheet 91 = .ok (.goto (-23), 3) := by decide +kernel
theorem dX11_sheet_94 : decode cX11_sheet 94 = .ok (.iconst 1, 1) := by decide +kernel
theorem dX11_sheet_95 : decode cX11_sheet 95 = .ok (.ireturn, 1) := by decide +kernel
theorem dX11_cell_0 : decode cX11_cell 0 = .ok (.iload_n 1, 1) := by decide +kernel
theorem dX11_cell_1 : decode cX11_cell 1 = .ok (.iconst 0, 1) := by decide +kernel
theorem dX11_cell_2 : decode cX11_cell 2 = .ok (.iconst 3, 1) := by decide +kernel
theorem dX11_cell_3 : decode cX11_cell 3 = .ok (.invokestatic 102, 3) := by decide +kernel
theorem dX11_cell_6 : decode cX11_cell 6 = .ok (.ifCond .ne 6, 3) := by decide +kernel
theorem dX11_cell_9 : decode cX11_cell 9 = .ok (.bipush (-2), 2) := by decide +kernel
theorem dX11_cell_11 : decode cX11_cell 11 = .ok (.ireturn, 1) := by decide +kernel
theorem dX11_cell_12 : decode cX11_cell 12 = .ok (.aload_n 0, 1) := by decide +kernel
theorem dX11_cell_13 : decode cX11_cell 13 = .ok (.getfield 58, 3) := by decide +kernel
theorem dX11_cell_16 : decode cX11_cell 16 = .ok (.iload_n 1, 1) := by decide +kernel
theorem dX11_cell_17 : decode cX11_cell 17 = .ok (.iaload, 1) := by decide +kernel
theorem dX11_cell_18 : decode cX11_cell 18 = .ok (.iconst (-1), 1) := by decide +kernel
theorem dX11_cell_19 : decode cX11_cell 19 = .ok (.if_icmp .ne 6, 3) := by decide +kernel
theorem dX11_cell_22 : decode cX11_cell 22 = .ok (.bipush (-11), 2) := by decide +kernel
theorem dX11_cell_24 : decode cX11_cell 24 = .ok (.ireturn, 1) := by decide +kernel
theorem dX11_cell_25 : decode cX11_cell 25 = .ok (.iload_n 2, 1) := by decide +kernel
theorem dX11_cell_26 : decode cX11_cell 26 = .ok (.iconst 0, 1) := by decide +kernel
theorem dX11_cell_27 : decode cX11_cell 27 = .ok (.aload_n 0, 1) := by decide +kernel
theorem dX11_cell_28 : decode cX11_cell 28 = .ok (.getfield 61, 3) := by decide +kernel
theorem dX11_cell_31 : decode cX11_cell 31 = .ok (.iload_n 1, 1) := by decide +kernel
theorem dX11_cell_32 : decode cX11_cell 32 = .ok (.iaload, 1) := by decide +kernel
theorem dX11_cell_33 : decode cX11_cell 33 = .ok (.iconst 1, 1) := by decide +kernel
theorem dX11_cell_34 : decode cX11_cell 34 = .ok (.isub, 1) := by decide +kernel
theorem dX11_cell_35 : decode cX11_cell 35 = .ok (.invokestatic 102, 3) := by decide +kernel
theorem dX11_cell_38 : decode cX11_cell 38 = .ok (.ifCond .ne 6, 3) := by decide +kernel
theorem dX11_cell_41 : decode cX11_cell 41 = .ok (.bipush (-12), 2) := by decide +kernel
theorem dX11_cell_43 : decode cX11_cell 43 = .ok (.ireturn, 1) := by decide +kernel
theorem dX11_cell_44 : decode cX11_cell 44 = .ok (.aload_n 0, 1) := by decide +kernel
theorem dX11_cell_45 : decode cX11_cell 45 = .ok (.getfield 64, 3) := by decide +kernel
theorem dX11_cell_48 : decode cX11_cell 48 = .ok (.bipush 40, 2) := by decide +kernel
theorem dX11_cell_50 : decode cX11_cell 50 = .ok (.iload_n 1, 1) := by decide +kernel
theorem dX11_cell_51 : decode cX11_cell 51 = .ok (.imul, 1) := by decide +kernel
theorem dX11_cell_52 : decode cX11_cell 52 = .ok (.iload_n 2, 1) := by decide +kernel
theorem dX11_cell_53 : decode cX11_cell 53 = .ok (.iadd, 1) := by decide +kernel
theorem dX11_cell_54 : decode cX11_cell 54 = .ok (.aload_n 0, 1) := by decide +kernel
theorem dX11_cell_55 : decode cX11_cell 55 = .ok (.getfield 58, 3) := by decide +kernel
theorem dX11_cell_58 : decode cX11_cell 58 = .ok (.iload_n 1, 1) := by decide +kernel
theorem dX11_cell_59 : decode cX11_cell 59 = .ok (.iaload, 1) := by decide +kernel
theorem dX11_cell_60 : decode cX11_cell 60 = .ok (.ifCond .ne 8, 3) := by decide +kernel
theorem dX11_cell_63 : decode cX11_cell 63 = .ok (.iload_n 3, 1) := by decide +kernel
theorem dX11_cell_64 : decode cX11_cell 64 = .ok (.i2b, 1) := by decide +kernel
theorem dX11_cell_65 : decode cX11_cell 65 = .ok (.goto 19, 3) := by decide +kernel
theorem dX11_cell_68 : decode cX11_cell 68 = .ok (.aload_n 0, 1) := by decide +kernel
theorem dX11_cell_69 : decode cX11_cell 69 = .ok (.getfield 58, 3) := by decide +kernel
theorem dX11_cell_72 : decode cX11_cell 72 = .ok (.iload_n 1, 1) := by decide +kernel
theorem dX11_cell_73 : decode cX11_cell 73 = .ok (.iaload, 1) := by decide +kernel
theorem dX11_cell_74 : decode cX11_cell 74 = .ok (.iconst 1, 1) := by decide +kernel
theorem dX11_cell_75 : decode cX11_cell 75 = .ok (.if_icmp .ne 8, 3) := by decide +kernel
theorem dX11_cell_78 : decode cX11_cell 78 = .ok (.iload_n 3, 1) := by decide +kernel
theorem dX11_cell_79 : decode cX11_cell 79 = .ok (.i2s, 1) := by decide +kernel
theorem dX11_cell_80 : decode cX11_cell 80 = .ok (.goto 4, 3) := by decide +kernel
theorem dX11_cell_83 : decode cX11_cell 83 = .ok (.iload_n 3, 1) := by decide +kernel
theorem dX11_cell_84 : decode cX11_cell 84 = .ok (.iastore, 1) := by decide +kernel
theorem dX11_cell_85 : decode cX11_cell 85 = .ok (.iconst 1, 1) := by decide +kernel
theorem dX11_cell_86 : decode cX11_cell 86 = .ok (.ireturn, 1) := by decide +kernel
theorem dX11_copy_0 : decode cX11_copy 0 = .ok (.iload_n 1, 1) := by decide +kernel
theorem dX11_copy_1 : decode cX11_copy 1 = .ok (.iconst 0, 1) := by decide +kernel
theorem dX11_copy_2 : decode cX11_copy 2 = .ok (.iconst 3, 1) := by decide +kernel
theorem dX11_copy_3 : decode cX11_copy 3 = .ok (.invokestatic 102, 3) := by decide +kernel
theorem dX11_copy_6 : decode cX11_copy 6 = .ok (.ifCond .eq 12, 3) := by decide +kernel
theorem dX11_copy_9 : decode cX11_copy 9 = .ok (.iload_n 3, 1) := by decide +kernel
theorem dX11_copy_10 : decode cX11_copy 10 = .ok (.iconst 0, 1) := by decide +kernel
theorem dX11_copy_11 : decode cX11_copy 11 = .ok (.iconst 3, 1) := by decide +kernel
theorem dX11_copy_12 : decode cX11_copy 12 = .ok (.invokestatic 102, 3) := by decide +kernel
theorem dX11_copy_15 : decode cX11_copy 15 = .ok (.ifCond .ne 6, 3) := by decide +kernel
theorem dX11_copy_18 : decode cX11_copy 18 = .ok (.bipush (-2), 2) := by decide +kernel
theorem dX11_copy_20 : decode cX11_copy 20 = .ok (.ireturn, 1) := by decide +kernel
theorem dX11_copy_21 : decode cX11_copy 21 = .ok (.aload_n 0, 1) := by decide +kernel
theorem dX11_copy_22 : decode cX11_copy 22 = .ok (.getfield 58, 3) := by decide +kernel
theorem dX11_copy_25 : decode cX11_copy 25 = .ok (.iload_n 1, 1) := by decide +kernel
theorem dX11_copy_26 : decode cX11_copy 26 = .ok (.iaload, 1) := by decide +kernel
theorem dX11_copy_27 : decode cX11_copy 27 = .ok (.iconst (-1), 1) := by decide +kernel
theorem dX11_copy_28 : decode cX11_copy 28 = .ok (.if_icmp .eq 13, 3) := by decide +kernel
theorem dX11_copy_31 : decode cX11_copy 31 = .ok (.aload_n 0, 1) := by decide +kernel
theorem dX11_copy_32 : decode cX11_copy 32 = .ok (.getfield 58, 3) := by decide +kernel
theorem dX11_copy_35 : decode cX11_copy 35 = .ok (.iload_n 3, 1) := by decide +kernel
theorem dX11_copy_36 : decode cX11_copy 36 = .ok (.iaload, 1) := by decide +kernel
theorem dX11_copy_37 : decode cX11_copy 37 = .ok (.iconst (-1), 1) := by decide +kernel
theorem dX11_copy_38 : decode cX11_copy 38 = .ok (.if_icmp .ne 6, 3) := by decide +kernel
theorem dX11_copy_41 : decode cX11_copy 41 = .ok (.bipush (-11), 2) := by decide +kernel
theorem dX11_copy_43 : decode cX11_copy 43 = .ok (.ireturn, 1) := by decide +kernel
theorem dX11_copy_44 : decode cX11_copy 44 = .ok (.aload_n 0, 1) := by decide +kernel
theorem dX11_copy_45 : decode cX11_copy 45 = .ok (.getfield 58, 3) := by decide +kernel
theorem dX11_copy_48 : decode cX11_copy 48 = .ok (.iload_n 1, 1) := by decide +kernel
theorem dX11_copy_49 : decode cX11_copy 49 = .ok (.iaload, 1) := by decide +kernel
theorem dX11_copy_50 : decode cX11_copy 50 = .ok (.aload_n 0, 1) := by decide +kernel
theorem dX11_copy_51 : decode cX11_copy 51 = .ok (.getfield 58, 3) := by decide +kernel
theorem dX11_copy_54 : decode cX11_copy 54 = .ok (.iload_n 3, 1) := by decide +kernel
theorem dX11_copy_55 : decode cX11_copy 55 = .ok (.iaload, 1) := by decide +kernel
theorem dX11_copy_56 : decode cX11_copy 56 = .ok (.if_icmp .eq 6, 3) := by decide +kernel
theorem dX11_copy_59 : decode cX11_copy 59 = .ok (.bipush (-13), 2) := by decide +kernel
theorem dX11_copy_61 : decode cX11_copy 61 = .ok (.ireturn, 1) := by decide +kernel
theorem dX11_copy_62 : decode cX11_copy 62 = .ok (.iload_n 2, 1) := by decide +kernel
theorem dX11_copy_63 : decode cX11_copy 63 = .ok (.ifCond .lt 48, 3) := by decide +kernel
theorem dX11_copy_66 : decode cX11_copy 66 = .ok (.iload 4, 2) := by decide +kernel
theorem dX11_copy_68 : decode cX11_copy 68 = .ok (.ifCond .lt 43, 3) := by decide +kernel
theorem dX11_copy_71 : decode cX11_copy 71 = .ok (.iload 5, 2) := by decide +kernel
theorem dX11_copy_73 : decode cX11_copy 73 = .ok (.ifCond .lt 38, 3) := by decide +kernel
theorem dX11_copy_76 : decode cX11_copy 76 = .ok (.iload_n 2, 1) := by decide +kernel
theorem dX11_copy_77 : decode cX11_copy 77 = .ok (.i2l, 1) := by decide +kernel
theorem dX11_copy_78 : decode cX11_copy 78 = .ok (.iload 5, 2) := by decide +kernel
theorem dX11_copy_80 : decode cX11_copy 80 = .ok (.i2l, 1) := by decide +kernel
theorem dX11_copy_81 : decode cX11_copy 81 = .ok (.ladd, 1) := by decide +kernel
theorem dX11_copy_82 : decode cX11_copy 82 = .ok (.aload_n 0, 1) := by decide +kernel
theorem dX11_copy_83 : decode cX11_copy 83 = .ok (.getfield 61, 3) := by decide +kernel
theorem dX11_copy_86 : decode cX11_copy 86 = .ok (.iload_n 1, 1) := by decide +kernel
theorem dX11_copy_87 : decode cX11_copy 87 = .ok (.iaload, 1) := by decide +kernel
theorem dX11_copy_88 : decode cX11_copy 88 = .ok (.i2l, 1) := by decide +kernel
theorem dX11_copy_89 : decode cX11_copy 89 = .ok (.lcmp, 1) := by decide +kernel
theorem dX11_copy_90 : decode cX11_copy 90 = .ok (.ifCond .gt 21, 3) := by decide +kernel
theorem dX11_copy_93 : decode cX11_copy 93 = .ok (.iload 4, 2) := by decide +kernel
theorem dX11_copy_95 : decode cX11_copy 95 = .ok (.i2l, 1) := by decide +kernel
theorem dX11_copy_96 : decode cX11_copy 96 = .ok (.iload 5, 2) := by decide +kernel
theorem dX11_copy_98 : decode cX11_copy 98 = .ok (.i2l, 1) := by decide +kernel
theorem dX11_copy_99 : decode cX11_copy 99 = .ok (.ladd, 1) := by decide +kernel
theorem dX11_copy_100 : decode cX11_copy 100 = .ok (.aload_n 0, 1) := by decide +kernel
theorem dX11_copy_101 : decode cX11_copy 101 = .ok (.getfield 61, 3) := by decide +kernel
theorem dX11_copy_104 : decode cX11_copy 104 = .ok (.iload_n 3, 1) := by decide +kernel
theorem dX11_copy_105 : decode cX11_copy 105 = .ok (.iaload, 1) := by decide +kernel
theorem dX11_copy_106 : decode cX11_copy 106 = .ok (.i2l, 1) := by decide +kernel
theorem dX11_copy_107 : decode cX11_copy 107 = .ok (.lcmp, 1) := by decide +kernel
theorem dX11_copy_108 : decode cX11_copy 108 = .ok (.ifCond .le 6, 3) := by decide +kernel
theorem dX11_copy_111 : decode cX11_copy 111 = .ok (.bipush (-12), 2) := by decide +kernel
theorem dX11_copy_113 : decode cX11_copy 113 = .ok (.ireturn, 1) := by decide +kernel
theorem dX11_copy_114 : decode cX11_copy 114 = .ok (.iconst 0, 1) := by decide +kernel
theorem dX11_copy_115 : decode cX11_copy 115 = .ok (.istore 6, 2) := by decide +kernel
theorem dX11_copy_117 : decode cX11_copy 117 = .ok (.iload 6, 2) := by decide +kernel
theorem dX11_copy_119 : decode cX11_copy 119 = .ok (.iload 5, 2) := by decide +kernel
theorem dX11_copy_121 : decode cX11_copy 121 = .ok (.if_icmp .ge 30, 3) := by decide +kernel
theorem dX11_copy_124 : decode cX11_copy 124 = .ok (.aload_n 0, 1) := by decide +kernel
theorem dX11_copy_125 : decode cX11_copy 125 = .ok (.getfield 67, 3) := by decide +kernel
theorem dX11_copy_128 : decode cX11_copy 128 = .ok (.iload 6, 2) := by decide +kernel
theorem dX11_copy_130 : decode cX11_copy 130 = .ok (.aload_n 0, 1) := by decide +kernel
theorem dX11_copy_131 : decode cX11_copy 131 = .ok (.getfield 64, 3) := by decide +kernel
theorem dX11_copy_134 : decode cX11_copy 134 = .ok (.bipush 40, 2) := by decide +kernel
theorem dX11_copy_136 : decode cX11_copy 136 = .ok (.iload_n 1, 1) := by decide +kernel
theorem dX11_copy_137 : decode cX11_copy 137 = .ok (.imul, 1) := by decide +kernel
theorem dX11_copy_138 : decode cX11_copy 138 = .ok (.iload_n 2, 1) := by decide +kernel
theorem dX11_copy_139 : decode cX11_copy 139 = .ok (.iadd, 1) := by decide +kernel
theorem dX11_copy_140 : decode cX11_copy 140 = .ok (.iload 6, 2) := by decide +kernel
theorem dX11_copy_142 : decode cX11_copy 142 = .ok (.iadd, 1) := by decide +kernel
theorem dX11_copy_143 : decode cX11_copy 143 = .ok (.iaload, 1) := by decide +kernel
theorem dX11_copy_144 : decode cX11_copy 144 = .ok (.iastore, 1) := by decide +kernel
theorem dX11_copy_145 : decode cX11_copy 145 = .ok (.iinc 6 1, 3) := by decide +kernel
theorem dX11_copy_148 : decode cX11_copy 148 = .ok (.goto (-31), 3) := by decide +kernel
theorem dX11_copy_151 : decode cX11_copy 151 = .ok (.iconst 0, 1) := by decide +kernel
theorem dX11_copy_152 : decode cX11_copy 152 = .ok (.istore 6, 2) := by decide +kernel
theorem dX11_copy_154 : decode cX11_copy 154 = .ok (.iload 6, 2) := by decide +kernel
theorem dX11_copy_156 : decode cX11_copy 156 = .ok (.iload 5, 2) := by decide +kernel
theorem dX11_copy_158 : decode cX11_copy 158 = .ok (.if_icmp .ge 31, 3) := by decide +kernel
theorem dX11_copy_161 : decode cX11_copy 161 = .ok (.aload_n 0, 1) := by decide +kernel
theorem dX11_copy_162 : decode cX11_copy 162 = .ok (.getfield 64, 3) := by decide +kernel
theorem dX11_copy_165 : decode cX11_copy 165 = .ok (.bipush 40, 2) := by decide +kernel
theorem dX11_copy_167 : decode cX11_copy 167 = .ok (.iload_n 3, 1) := by decide +kernel
theorem dX11_copy_168 : decode cX11_copy 168 = .ok (.imul, 1) := by decide +kernel
theorem dX11_copy_169 : decode cX11_copy 169 = .ok (.iload 4, 2) := by decide +kernel
theorem dX11_copy_171 : decode cX11_copy 171 = .ok (.iadd, 1) := by decide +kernel
theorem dX11_copy_172 : decode cX11_copy 172 = .ok (.iload 6, 2) := by decide +kernel
theorem dX11_copy_174 : decode cX11_copy 174 = .ok (.iadd, 1) := by decide +kernel
theorem dX11_copy_175 : decode cX11_copy 175 = .ok (.aload_n 0, 1) := by decide +kernel
theorem dX11_copy_176 : decode cX11_copy 176 = .ok (.getfield 67, 3) := by decide +kernel
theorem dX11_copy_179 : decode cX11_copy 179 = .ok (.iload 6, 2) := by decide +kernel
theorem dX11_copy_181 : decode cX11_copy 181 = .ok (.iaload, 1) := by decide +kernel
theorem dX11_copy_182 : decode cX11_copy 182 = .ok (.iastore, 1) := by decide +kernel
theorem dX11_copy_183 : decode cX11_copy 183 = .ok (.iinc 6 1, 3) := by decide +kernel
theorem dX11_copy_186 : decode cX11_copy 186 = .ok (.goto (-32), 3) := by decide +kernel
theorem dX11_copy_189 : decode cX11_copy 189 = .ok (.iload 5, 2) := by decide +kernel
theorem dX11_copy_191 : decode cX11_copy 191 = .ok (.ireturn, 1) := by decide +kernel
theorem dX11_boats_0 : decode cX11_boats 0 = .ok (.iload_n 1, 1) := by decide +kernel
theorem dX11_boats_1 : decode cX11_boats 1 = .ok (.iconst 0, 1) := by decide +kernel
theorem dX11_boats_2 : decode cX11_boats 2 = .ok (.iconst 3, 1) := by decide +kernel
theorem dX11_boats_3 : decode cX11_boats 3 = .ok (.invokestatic 102, 3) := by decide +kernel
theorem dX11_boats_6 : decode cX11_boats 6 = .ok (.ifCond .eq 23, 3) := by decide +kernel
theorem dX11_boats_9 : decode cX11_boats 9 = .ok (.iload_n 2, 1) := by decide +kernel
theorem dX11_boats_10 : decode cX11_boats 10 = .ok (.iconst 0, 1) := by decide +kernel
theorem dX11_boats_11 : decode cX11_boats 11 = .ok (.iconst 2, 1) := by decide +kernel
theorem dX11_boats_12 : decode cX11_boats 12 = .ok (.invokestatic 102, 3) := by decide +kernel
theorem dX11_boats_15 : decode cX11_boats 15 = .ok (.ifCond .eq 14, 3) := by decide +kernel
theorem dX11_boats_18 : decode cX11_boats 18 = .ok (.iload 4, 2) := by decide +kernel
theorem dX11_boats_20 : decode cX11_boats 20 = .ok (.iconst 0, 1) := by decide +kernel
theorem dX11_boats_21 : decode cX11_boats 21 = .ok (.bipush 7, 2) := by decide +kernel
theorem dX11_boats_23 : decode cX11_boats 23 = .ok (.invokestatic 102, 3) := by decide +kernel
theorem dX11_boats_26 : decode cX11_boats 26 = .ok (.ifCond .ne 6, 3) := by decide +kernel
theorem dX11_boats_29 : decode cX11_boats 29 = .ok (.bipush (-2), 2) := by decide +kernel
theorem dX11_boats_31 : decode cX11_boats 31 = .ok (.ireturn, 1) := by decide +kernel
theorem dX11_boats_32 : decode cX11_boats 32 = .ok (.aload_n 0, 1) := by decide +kernel
theorem dX11_boats_33 : decode cX11_boats 33 = .ok (.getfield 58, 3) := by decide +kernel
theorem dX11_boats_36 : decode cX11_boats 36 = .ok (.iload_n 1, 1) := by decide +kernel
theorem dX11_boats_37 : decode cX11_boats 37 = .ok (.iaload, 1) := by decide +kernel
theorem dX11_boats_38 : decode cX11_boats 38 = .ok (.iconst (-1), 1) := by decide +kernel
theorem dX11_boats_39 : decode cX11_boats 39 = .ok (.if_icmp .ne 6, 3) := by decide +kernel
theorem dX11_boats_42 : decode cX11_boats 42 = .ok (.bipush (-11), 2) := by decide +kernel
theorem dX11_boats_44 : decode cX11_boats 44 = .ok (.ireturn, 1) := by decide +kernel
theorem dX11_boats_45 : decode cX11_boats 45 = .ok (.aload_n 0, 1) := by decide +kernel
theorem dX11_boats_46 : decode cX11_boats 46 = .ok (.getfield 58, 3) := by decide +kernel
theorem dX11_boats_49 : decode cX11_boats 49 = .ok (.iload_n 1, 1) := by decide +kernel
theorem dX11_boats_50 : decode cX11_boats 50 = .ok (.iaload, 1) := by decide +kernel
theorem dX11_boats_51 : decode cX11_boats 51 = .ok (.iload_n 2, 1) := by decide +kernel
theorem dX11_boats_52 : decode cX11_boats 52 = .ok (.if_icmp .eq 6, 3) := by decide +kernel
theorem dX11_boats_55 : decode cX11_boats 55 = .ok (.bipush (-13), 2) := by decide +kernel
theorem dX11_boats_57 : decode cX11_boats 57 = .ok (.ireturn, 1) := by decide +kernel
theorem dX11_boats_58 : decode cX11_boats 58 = .ok (.iconst 0, 1) := by decide +kernel
theorem dX11_boats_59 : decode cX11_boats 59 = .ok (.istore 5, 2) := by decide +kernel
theorem dX11_boats_61 : decode cX11_boats 61 = .ok (.iconst 0, 1) := by decide +kernel
theorem dX11_boats_62 : decode cX11_boats 62 = .ok (.istore 6, 2) := by decide +kernel
theorem dX11_boats_64 : decode cX11_boats 64 = .ok (.iload 6, 2) := by decide +kernel
theorem dX11_boats_66 : decode cX11_boats 66 = .ok (.iload 4, 2) := by decide +kernel
theorem dX11_boats_68 : decode cX11_boats 68 = .ok (.if_icmp .ge 93, 3) := by decide +kernel
theorem dX11_boats_71 : decode cX11_boats 71 = .ok (.iload_n 3, 1) := by decide +kernel
theorem dX11_boats_72 : decode cX11_boats 72 = .ok (.i2l, 1) := by decide +kernel
theorem dX11_boats_73 : decode cX11_boats 73 = .ok (.ldc2_w 303, 3) := by decide +kernel
theorem dX11_boats_76 : decode cX11_boats 76 = .ok (.iload 6, 2) := by decide +kernel
theorem dX11_boats_78 : decode cX11_boats 78 = .ok (.i2l, 1) := by decide +kernel
theorem dX11_boats_79 : decode cX11_boats 79 = .ok (.lmul, 1) := by decide +kernel
theorem dX11_boats_80 : decode cX11_boats 80 = .ok (.ladd, 1) := by decide +kernel
theorem dX11_boats_81 : decode cX11_boats 81 = .ok (.lstore 7, 2) := by decide +kernel
theorem dX11_boats_83 : decode cX11_boats 83 = .ok (.lload 7, 2) := by decide +kernel
theorem dX11_boats_85 : decode cX11_boats 85 = .ok (.lconst 0, 1) := by decide +kernel
theorem dX11_boats_86 : decode cX11_boats 86 = .ok (.lcmp, 1) := by decide +kernel
theorem dX11_boats_87 : decode cX11_boats 87 = .ok (.ifCond .lt 20, 3) := by decide +kernel
theorem dX11_boats_90 : decode cX11_boats 90 = .ok (.lload 7, 2) := by decide +kernel
theorem dX11_boats_92 : decode cX11_boats 92 = .ok (.ldc2_w 305, 3) := by decide +kernel
theorem dX11_boats_95 : decode cX11_boats 95 = .ok (.ladd, 1) := by decide +kernel
theorem dX11_boats_96 : decode cX11_boats 96 = .ok (.aload_n 0, 1) := by decide +kernel
theorem dX11_boats_97 : decode cX11_boats 97 = .ok (.getfield 61, 3) := by decide +kernel
theorem dX11_boats_100 : decode cX11_boats 100 = .ok (.iload_n 1, 1) := by decide +kernel
theorem dX11_boats_101 : decode cX11_boats 101 = .ok (.iaload, 1) := by decide +kernel
theorem dX11_boats_102 : decode cX11_boats 102 = .ok (.i2l, 1) := by decide +kernel
theorem dX11_boats_103 : decode cX11_boats 103 = .ok (.lcmp, 1) := by decide +kernel
theorem dX11_boats_104 : decode cX11_boats 104 = .ok (.ifCond .lt 6, 3) := by decide +kernel
theorem dX11_boats_107 : decode cX11_boats 107 = .ok (.bipush (-12), 2) := by decide +kernel
theorem dX11_boats_109 : decode cX11_boats 109 = .ok (.ireturn, 1) := by decide +kernel
theorem dX11_boats_110 : decode cX11_boats 110 = .ok (.bipush 40, 2) := by decide +kernel
theorem dX11_boats_112 : decode cX11_boats 112 = .ok (.iload_n 1, 1) := by decide +kernel
theorem dX11_boats_113 : decode cX11_boats 113 = .ok (.imul, 1) := by decide +kernel
theorem dX11_boats_114 : decode cX11_boats 114 = .ok (.lload 7, 2) := by decide +kernel
theorem dX11_boats_116 : decode cX11_boats 116 = .ok (.l2i, 1) := by decide +kernel
theorem dX11_boats_117 : decode cX11_boats 117 = .ok (.iadd, 1) := by decide +kernel
theorem dX11_boats_118 : decode cX11_boats 118 = .ok (.istore 9, 2) := by decide +kernel
theorem dX11_boats_120 : decode cX11_boats 120 = .ok (.aload_n 0, 1) := by decide +kernel
theorem dX11_boats_121 : decode cX11_boats 121 = .ok (.aload_n 0, 1) := by decide +kernel
theorem dX11_boats_122 : decode cX11_boats 122 = .ok (.getfield 64, 3) := by decide +kernel
theorem dX11_boats_125 : decode cX11_boats 125 = .ok (.iload 9, 2) := by decide +kernel
