theorem dX10_where_41 : decode cX10_where 41 = .ok (.iadd, 1) := by decide +kernel
theorem dX10_where_42 : decode cX10_where 42 = .ok (.aload_n 0, 1) := by decide +kernel
theorem dX10_where_43 : decode cX10_where 43 = .ok (.getfield 15, 3) := by decide +kernel
theorem dX10_where_46 : decode cX10_where 46 = .ok (.bipush 9, 2) := by decide +kernel
theorem dX10_where_48 : decode cX10_where 48 = .ok (.iaload, 1) := by decide +kernel
theorem dX10_where_49 : decode cX10_where 49 = .ok (.aload_n 0, 1) := by decide +kernel
theorem dX10_where_50 : decode cX10_where 50 = .ok (.getfield 15, 3) := by decide +kernel
theorem dX10_where_53 : decode cX10_where 53 = .ok (.iconst 5, 1) := by decide +kernel
theorem dX10_where_54 : decode cX10_where 54 = .ok (.iaload, 1) := by decide +kernel
theorem dX10_where_55 : decode cX10_where 55 = .ok (.invokevirtual 172, 3) := by decide +kernel
theorem dX10_where_58 : decode cX10_where 58 = .ok (.ifCond .eq 10, 3) := by decide +kernel
theorem dX10_where_61 : decode cX10_where 61 = .ok (.iload_n 3, 1) := by decide +kernel
theorem dX10_where_62 : decode cX10_where 62 = .ok (.iconst 1, 1) := by decide +kernel
theorem dX10_where_63 : decode cX10_where 63 = .ok (.iload 4, 2) := by decide +kernel
theorem dX10_where_65 : decode cX10_where 65 = .ok (.ishl, 1) := by decide +kernel
theorem dX10_where_66 : decode cX10_where 66 = .ok (.ior, 1) := by decide +kernel
theorem dX10_where_67 : decode cX10_where 67 = .ok (.istore_n 3, 1) := by decide +kernel
theorem dX10_where_68 : decode cX10_where 68 = .ok (.iinc 4 1, 3) := by decide +kernel
theorem dX10_where_71 : decode cX10_where 71 = .ok (.goto (-45), 3) := by decide +kernel
theorem dX10_where_74 : decode cX10_where 74 = .ok (.iload_n 3, 1) := by decide +kernel
theorem dX10_where_75 : decode cX10_where 75 = .ok (.ireturn, 1) := by decide +kernel
theorem dX10_drawn_0 : decode cX10_drawn 0 = .ok (.iload_n 1, 1) := by decide +kernel
theorem dX10_drawn_1 : decode cX10_drawn 1 = .ok (.invokestatic 240, 3) := by decide +kernel
theorem dX10_drawn_4 : decode cX10_drawn 4 = .ok (.istore_n 2, 1) := by decide +kernel
theorem dX10_drawn_5 : decode cX10_drawn 5 = .ok (.iconst 0, 1) := by decide +kernel
theorem dX10_drawn_6 : decode cX10_drawn 6 = .ok (.istore_n 3, 1) := by decide +kernel
theorem dX10_drawn_7 : decode cX10_drawn 7 = .ok (.iconst 0, 1) := by decide +kernel
theorem dX10_drawn_8 : decode cX10_drawn 8 = .ok (.istore 4, 2) := by decide +kernel
theorem dX10_drawn_10 : decode cX10_drawn 10 = .ok (.iload 4, 2) := by decide +kernel
theorem dX10_drawn_12 : decode cX10_drawn 12 = .ok (.aload_n 0, 1) := by decide +kernel
theorem dX10_drawn_13 : decode cX10_drawn 13 = .ok (.getfield 92, 3) := by decide +kernel
theorem dX10_drawn_16 : decode cX10_drawn 16 = .ok (.if_icmp .ge 50, 3) := by decide +kernel
theorem dX10_drawn_19 : decode cX10_drawn 19 = .ok (.aload_n 0, 1) := by decide +kernel
theorem dX10_drawn_20 : decode cX10_drawn 20 = .ok (.iload 4, 2) := by decide +kernel
theorem dX10_drawn_22 : decode cX10_drawn 22 = .ok (.invokevirtual 163, 3) := by decide +kernel
theorem dX10_drawn_25 : decode cX10_drawn 25 = .ok (.ifCond .eq 35, 3) := by decide +kernel
theorem dX10_drawn_28 : decode cX10_drawn 28 = .ok (.aload_n 0, 1) := by decide +kernel
theorem dX10_drawn_29 : decode cX10_drawn 29 = .ok (.iload 4, 2) := by decide +kernel
theorem dX10_drawn_31 : decode cX10_drawn 31 = .ok (.aload_n 0, 1) := by decide +kernel
theorem dX10_drawn_32 : decode cX10_drawn 32 = .ok (.getfield 11, 3) := by decide +kernel
theorem dX10_drawn_35 : decode cX10_drawn 35 = .ok (.iload 4, 2) := by decide +kernel
theorem dX10_drawn_37 : decode cX10_drawn 37 = .ok (.aaload, 1) := by decide +kernel
theorem dX10_drawn_38 : decode cX10_drawn 38 = .ok (.getfield 102, 3) := by decide +kernel
theorem dX10_drawn_41 : decode cX10_drawn 41 = .ok (.iconst 0, 1) := by decide +kernel
theorem dX10_drawn_42 : decode cX10_drawn 42 = .ok (.iaload, 1) := by decide +kernel
theorem dX10_drawn_43 : decode cX10_drawn 43 = .ok (.aload_n 0, 1) := by decide +kernel
theorem dX10_drawn_44 : decode cX10_drawn 44 = .ok (.getfield 15, 3) := by decide +kernel
theorem dX10_drawn_47 : decode cX10_drawn 47 = .ok (.bipush 9, 2) := by decide +kernel
theorem dX10_drawn_49 : decode cX10_drawn 49 = .ok (.iaload, 1) := by decide +kernel
theorem dX10_drawn_50 : decode cX10_drawn 50 = .ok (.iload_n 2, 1) := by decide +kernel
theorem dX10_drawn_51 : decode cX10_drawn 51 = .ok (.invokevirtual 172, 3) := by decide +kernel
theorem dX10_drawn_54 : decode cX10_drawn 54 = .ok (.ifCond .eq 6, 3) := by decide +kernel
theorem dX10_drawn_57 : decode cX10_drawn 57 = .ok (.iinc 3 1, 3) := by decide +kernel
theorem dX10_drawn_60 : decode cX10_drawn 60 = .ok (.iinc 4 1, 3) := by decide +kernel
theorem dX10_drawn_63 : decode cX10_drawn 63 = .ok (.goto (-53), 3) := by decide +kernel
theorem dX10_drawn_66 : decode cX10_drawn 66 = .ok (.iload_n 3, 1) := by decide +kernel
theorem dX10_drawn_67 : decode cX10_drawn 67 = .ok (.ireturn, 1) := by decide +kernel
theorem dX10_chance_0 : decode cX10_chance 0 = .ok (.iload_n 2, 1) := by decide +kernel
theorem dX10_chance_1 : decode cX10_chance 1 = .ok (.iconst 1, 1) := by decide +kernel
theorem dX10_chance_2 : decode cX10_chance 2 = .ok (.if_icmp .lt 18, 3) := by decide +kernel
theorem dX10_chance_5 : decode cX10_chance 5 = .ok (.iload_n 2, 1) := by decide +kernel
theorem dX10_chance_6 : decode cX10_chance 6 = .ok (.bipush 20, 2) := by decide +kernel
theorem dX10_chance_8 : decode cX10_chance 8 = .ok (.if_icmp .gt 12, 3) := by decide +kernel
theorem dX10_chance_11 : decode cX10_chance 11 = .ok (.iload_n 3, 1) := by decide +kernel
theorem dX10_chance_12 : decode cX10_chance 12 = .ok (.ifCond .lt 8, 3) := by decide +kernel
theorem dX10_chance_15 : decode cX10_chance 15 = .ok (.iload_n 3, 1) := by decide +kernel
theorem dX10_chance_16 : decode cX10_chance 16 = .ok (.iconst 1, 1) := by decide +kernel
theorem dX10_chance_17 : decode cX10_chance 17 = .ok (.if_icmp .le 7, 3) := by decide +kernel
theorem dX10_chance_20 : decode cX10_chance 20 = .ok (.ldc2_w 243, 3) := by decide +kernel
theorem dX10_chance_23 : decode cX10_chance 23 = .ok (.lreturn, 1) := by decide +kernel
theorem dX10_chance_24 : decode cX10_chance 24 = .ok (.iconst 0, 1) := by decide +kernel
theorem dX10_chance_25 : decode cX10_chance 25 = .ok (.istore 4, 2) := by decide +kernel
theorem dX10_chance_27 : decode cX10_chance 27 = .ok (.aload_n 0, 1) := by decide +kernel
theorem dX10_chance_28 : decode cX10_chance 28 = .ok (.iconst 0, 1) := by decide +kernel
theorem dX10_chance_29 : decode cX10_chance 29 = .ok (.invokevirtual 245, 3) := by decide +kernel
theorem dX10_chance_32 : decode cX10_chance 32 = .ok (.invokestatic 248, 3) := by decide +kernel
theorem dX10_chance_35 : decode cX10_chance 35 = .ok (.istore 5, 2) := by decide +kernel
theorem dX10_chance_37 : decode cX10_chance 37 = .ok (.iconst 0, 1) := by decide +kernel
theorem dX10_chance_38 : decode cX10_chance 38 = .ok (.istore 6, 2) := by decide +kernel
theorem dX10_chance_40 : decode cX10_chance 40 = .ok (.iload 6, 2) := by decide +kernel
theorem dX10_chance_42 : decode cX10_chance 42 = .ok (.iload_n 2, 1) := by decide +kernel
theorem dX10_chance_43 : decode cX10_chance 43 = .ok (.if_icmp .ge 25, 3) := by decide +kernel
theorem dX10_chance_46 : decode cX10_chance 46 = .ok (.aload_n 0, 1) := by decide +kernel
theorem dX10_chance_47 : decode cX10_chance 47 = .ok (.iload_n 1, 1) := by decide +kernel
theorem dX10_chance_48 : decode cX10_chance 48 = .ok (.iload 6, 2) := by decide +kernel
theorem dX10_chance_50 : decode cX10_chance 50 = .ok (.iadd, 1) := by decide +kernel
theorem dX10_chance_51 : decode cX10_chance 51 = .ok (.invokevirtual 253, 3) := by decide +kernel
theorem dX10_chance_54 : decode cX10_chance 54 = .ok (.iload 5, 2) := by decide +kernel
theorem dX10_chance_56 : decode cX10_chance 56 = .ok (.if_icmp .ne 6, 3) := by decide +kernel
theorem dX10_chance_59 : decode cX10_chance 59 = .ok (.iinc 4 1, 3) := by decide +kernel
theorem dX10_chance_62 : decode cX10_chance 62 = .ok (.iinc 6 1, 3) := by decide +kernel
theorem dX10_chance_65 : decode cX10_chance 65 = .ok (.goto (-25), 3) := by decide +kernel
theorem dX10_chance_68 : decode cX10_chance 68 = .ok (.iload 4, 2) := by decide +kernel
theorem dX10_chance_70 : decode cX10_chance 70 = .ok (.iload_n 2, 1) := by decide +kernel
theorem dX10_chance_71 : decode cX10_chance 71 = .ok (.invokestatic 256, 3) := by decide +kernel
theorem dX10_chance_74 : decode cX10_chance 74 = .ok (.istore 6, 2) := by decide +kernel
theorem dX10_chance_76 : decode cX10_chance 76 = .ok (.iload_n 3, 1) := by decide +kernel
theorem dX10_chance_77 : decode cX10_chance 77 = .ok (.ifCond .ne 12, 3) := by decide +kernel
theorem dX10_chance_80 : decode cX10_chance 80 = .ok (.iload 4, 2) := by decide +kernel
theorem dX10_chance_82 : decode cX10_chance 82 = .ok (.iload 6, 2) := by decide +kernel
theorem dX10_chance_84 : decode cX10_chance 84 = .ok (.idiv, 1) := by decide +kernel
theorem dX10_chance_85 : decode cX10_chance 85 = .ok (.i2l, 1) := by decide +kernel
theorem dX10_chance_86 : decode cX10_chance 86 = .ok (.goto 8, 3) := by decide +kernel
theorem dX10_chance_89 : decode cX10_chance 89 = .ok (.iload_n 2, 1) := by decide +kernel
theorem dX10_chance_90 : decode cX10_chance 90 = .ok (.iload 6, 2) := by decide +kernel
theorem dX10_chance_92 : decode cX10_chance 92 = .ok (.idiv, 1) := by decide +kernel
theorem dX10_chance_93 : decode cX10_chance 93 = .ok (.i2l, 1) := by decide +kernel
theorem dX10_chance_94 : decode cX10_chance 94 = .ok (.lreturn, 1) := by decide +kernel
theorem dX10_image_0 : decode cX10_image 0 = .ok (.aload_n 0, 1) := by decide +kernel
theorem dX10_image_1 : decode cX10_image 1 = .ok (.getfield 15, 3) := by decide +kernel
theorem dX10_image_4 : decode cX10_image 4 = .ok (.iconst 0, 1) := by decide +kernel
theorem dX10_image_5 : decode cX10_image 5 = .ok (.aload_n 0, 1) := by decide +kernel
theorem dX10_image_6 : decode cX10_image 6 = .ok (.getfield 19, 3) := by decide +kernel
theorem dX10_image_9 : decode cX10_image 9 = .ok (.iconst 0, 1) := by decide +kernel
theorem dX10_image_10 : decode cX10_image 10 = .ok (.bipush 12, 2) := by decide +kernel
theorem dX10_image_12 : decode cX10_image 12 = .ok (.invokestatic 259, 3) := by decide +kernel
theorem dX10_image_15 : decode cX10_image 15 = .ok (.iconst 0, 1) := by decide +kernel
theorem dX10_image_16 : decode cX10_image 16 = .ok (.istore_n 1, 1) := by decide +kernel
theorem dX10_image_17 : decode cX10_image 17 = .ok (.iload_n 1, 1) := by decide +kernel
theorem dX10_image_18 : decode cX10_image 18 = .ok (.aload_n 0, 1) := by decide +kernel
theorem dX10_image_19 : decode cX10_image 19 = .ok (.getfield 92, 3) := by decide +kernel
theorem dX10_image_22 : decode cX10_image 22 = .ok (.if_icmp .ge 18, 3) := by decide +kernel
theorem dX10_image_25 : decode cX10_image 25 = .ok (.aload_n 0, 1) := by decide +kernel
theorem dX10_image_26 : decode cX10_image 26 = .ok (.getfield 11, 3) := by decide +kernel
theorem dX10_image_29 : decode cX10_image 29 = .ok (.iload_n 1, 1) := by decide +kernel
theorem dX10_image_30 : decode cX10_image 30 = .ok (.aaload, 1) := by decide +kernel
theorem dX10_image_31 : decode cX10_image 31 = .ok (.invokevirtual 265, 3) := by decide +kernel
theorem dX10_image_34 : decode cX10_image 34 = .ok (.iinc 1 1, 3) := by decide +kernel
theorem dX10_image_37 : decode cX10_image 37 = .ok (.goto (-20), 3) := by decide +kernel
theorem dX10_image_40 : decode cX10_image 40 = .ok (.aload_n 0, 1) := by decide +kernel
theorem dX10_image_41 : decode cX10_image 41 = .ok (.aload_n 0, 1) := by decide +kernel
theorem dX10_image_42 : decode cX10_image 42 = .ok (.getfield 92, 3) := by decide +kernel
theorem dX10_image_45 : decode cX10_image 45 = .ok (.putfield 22, 3) := by decide +kernel
theorem dX10_image_48 : decode cX10_image 48 = .ok (.aload_n 0, 1) := by decide +kernel
theorem dX10_image_49 : decode cX10_image 49 = .ok (.getfield 92, 3) := by decide +kernel
theorem dX10_image_52 : decode cX10_image 52 = .ok (.ireturn, 1) := by decide +kernel
theorem dX10_back_0 : decode cX10_back 0 = .ok (.aload_n 0, 1) := by decide +kernel
theorem dX10_back_1 : decode cX10_back 1 = .ok (.getfield 22, 3) := by decide +kernel
theorem dX10_back_4 : decode cX10_back 4 = .ok (.iconst (-1), 1) := by decide +kernel
theorem dX10_back_5 : decode cX10_back 5 = .ok (.if_icmp .ne 6, 3) := by decide +kernel
theorem dX10_back_8 : decode cX10_back 8 = .ok (.bipush (-3), 2) := by decide +kernel
theorem dX10_back_10 : decode cX10_back 10 = .ok (.ireturn, 1) := by decide +kernel
theorem dX10_back_11 : decode cX10_back 11 = .ok (.aload_n 0, 1) := by decide +kernel
theorem dX10_back_12 : decode cX10_back 12 = .ok (.getfield 19, 3) := by decide +kernel
theorem dX10_back_15 : decode cX10_back 15 = .ok (.iconst 0, 1) := by decide +kernel
theorem dX10_back_16 : decode cX10_back 16 = .ok (.aload_n 0, 1) := by decide +kernel
theorem dX10_back_17 : decode cX10_back 17 = .ok (.getfield 15, 3) := by decide +kernel
theorem dX10_back_20 : decode cX10_back 20 = .ok (.iconst 0, 1) := by decide +kernel
theorem dX10_back_21 : decode cX10_back 21 = .ok (.bipush 12, 2) := by decide +kernel
theorem dX10_back_23 : decode cX10_back 23 = .ok (.invokestatic 259, 3) := by decide +kernel
theorem dX10_back_26 : decode cX10_back 26 = .ok (.aload_n 0, 1) := by decide +kernel
theorem dX10_back_27 : decode cX10_back 27 = .ok (.aload_n 0, 1) := by decide +kernel
theorem dX10_back_28 : decode cX10_back 28 = .ok (.getfield 22, 3) := by decide +kernel
theorem dX10_back_31 : decode cX10_back 31 = .ok (.putfield 92, 3) := by decide +kernel
theorem dX10_back_34 : decode cX10_back 34 = .ok (.iconst 0, 1) := by decide +kernel
theorem dX10_back_35 : decode cX10_back 35 = .ok (.istore_n 1, 1) := by decide +kernel
theorem dX10_back_36 : decode cX10_back 36 = .ok (.iload_n 1, 1) := by decide +kernel
theorem dX10_back_37 : decode cX10_back 37 = .ok (.aload_n 0, 1) := by decide +kernel
theorem dX10_back_38 : decode cX10_back 38 = .ok (.getfield 92, 3) := by decide +kernel
theorem dX10_back_41 : decode cX10_back 41 = .ok (.if_icmp .ge 18, 3) := by decide +kernel
theorem dX10_back_44 : decode cX10_back 44 = .ok (.aload_n 0, 1) := by decide +kernel
theorem dX10_back_45 : decode cX10_back 45 = .ok (.getfield 11, 3) := by decide +kernel
theorem dX10_back_48 : decode cX10_back 48 = .ok (.iload_n 1, 1) := by decide +kernel
theorem dX10_back_49 : decode cX10_back 49 = .ok (.aaload, 1) := by decide +kernel
theorem dX10_back_50 : decode cX10_back 50 = .ok (.invokevirtual 268, 3) := by decide +kernel
theorem dX10_back_53 : decode cX10_back 53 = .ok (.iinc 1 1, 3) := by decide +kernel
theorem dX10_back_56 : decode cX10_back 56 = .ok (.goto (-20), 3) := by decide +kernel
theorem dX10_back_59 : decode cX10_back 59 = .ok (.aload_n 0, 1) := by decide +kernel
theorem dX10_back_60 : decode cX10_back 60 = .ok (.getfield 92, 3) := by decide +kernel
theorem dX10_back_63 : decode cX10_back 63 = .ok (.ireturn, 1) := by decide +kernel
theorem dX10_count_0 : decode cX10_count 0 = .ok (.iload_n 1, 1) := by decide +kernel
theorem dX10_count_1 : decode cX10_count 1 = .ok (.tableswitch 132 0 9 #[55, 60, 69, 78, 87, 95, 103, 111, 116, 124], 55) := by decide +kernel
theorem dX10_count_56 : decode cX10_count 56 = .ok (.aload_n 0, 1) := by decide +kernel
theorem dX10_count_57 : decode cX10_count 57 = .ok (.getfield 92, 3) := by decide +kernel
theorem dX10_count_60 : decode cX10_count 60 = .ok (.ireturn, 1) := by decide +kernel
theorem dX10_count_61 : decode cX10_count 61 = .ok (.aload_n 0, 1) := by decide +kernel
theorem dX10_count_62 : decode cX10_count 62 = .ok (.iconst 0, 1) := by decide +kernel
theorem dX10_count_63 : decode cX10_count 63 = .ok (.invokevirtual 245, 3) := by decide +kernel
theorem dX10_count_66 : decode cX10_count 66 = .ok (.invokestatic 248, 3) := by decide +kernel
theorem dX10_count_69 : decode cX10_count 69 = .ok (.ireturn, 1) := by decide +kernel
theorem dX10_count_70 : decode cX10_count 70 = .ok (.aload_n 0, 1) := by decide +kernel
theorem dX10_count_71 : decode cX10_count 71 = .ok (.iconst 1, 1) := by decide +kernel
theorem dX10_count_72 : decode cX10_count 72 = .ok (.invokevirtual 245, 3) := by decide +kernel
theorem dX10_count_75 : decode cX10_count 75 = .ok (.invokestatic 248, 3) := by decide +kernel
theorem dX10_count_78 : decode cX10_count 78 = .ok (.ireturn, 1) := by decide +kernel
theorem dX10_count_79 : decode cX10_count 79 = .ok (.aload_n 0, 1) := by decide +kernel
theorem dX10_count_80 : decode cX10_count 80 = .ok (.iconst 2, 1) := by decide +kernel
theorem dX10_count_81 : decode cX10_count 81 = .ok (.invokevirtual 245, 3) := by decide +kernel
theorem dX10_count_84 : decode cX10_count 84 = .ok (.invokestatic 248, 3) := by decide +kernel
theorem dX10_count_87 : decode cX10_count 87 = .ok (.ireturn, 1) := by decide +kernel
theorem dX10_count_88 : decode cX10_count 88 = .ok (.aload_n 0, 1) := by decide +kernel
theorem dX10_count_89 : decode cX10_count 89 = .ok (.getfield 15, 3) := by decide +kernel
theorem dX10_count_92 : decode cX10_count 92 = .ok (.bipush 9, 2) := by decide +kernel
theorem dX10_count_94 : decode cX10_count 94 = .ok (.iaload, 1) := by decide +kernel
theorem dX10_count_95 : decode cX10_count 95 = .ok (.ireturn, 1) := by decide +kernel
theorem dX10_count_96 : decode cX10_count 96 = .ok (.aload_n 0, 1) := by decide +kernel
theorem dX10_count_97 : decode cX10_count 97 = .ok (.getfield 15, 3) := by decide +kernel
theorem dX10_count_100 : decode cX10_count 100 = .ok (.bipush 10, 2) := by decide +kernel
theorem dX10_count_102 : decode cX10_count 102 = .ok (.iaload, 1) := by decide +kernel
theorem dX10_count_103 : decode cX10_count 103 = .ok (.ireturn, 1) := by decide +kernel
theorem dX10_count_104 : decode cX10_count 104 = .ok (.aload_n 0, 1) := by decide +kernel
theorem dX10_count_105 : decode cX10_count 105 = .ok (.getfield 15, 3) := by decide +kernel
theorem dX10_count_108 : decode cX10_count 108 = .ok (.bipush 8, 2) := by decide +kernel
theorem dX10_count_110 : decode cX10_count 110 = .ok (.iaload, 1) := by decide +kernel
theorem dX10_count_111 : decode cX10_count 111 = .ok (.ireturn, 1) := by decide +kernel
theorem dX10_count_112 : decode cX10_count 112 = .ok (.aload_n 0, 1) := by decide +kernel
theorem dX10_count_113 : decode cX10_count 113 = .ok (.getfield 82, 3) := by decide +kernel
theorem dX10_count_116 : decode cX10_count 116 = .ok (.ireturn, 1) := by decide +kernel
theorem dX10_count_117 : decode cX10_count 117 = .ok (.aload_n 0, 1) := by decide +kernel
theorem dX10_count_118 : decode cX10_count 118 = .ok (.getfield 29, 3) := by decide +kernel
theorem dX10_count_121 : decode cX10_count 121 = .ok (.getfield 146, 3) := by decide +kernel
theorem dX10_count_124 : decode cX10_count 124 = .ok (.ireturn, 1) := by decide +kernel
theorem dX10_count_125 : decode cX10_count 125 = .ok (.aload_n 0, 1) := by decide +kernel
theorem dX10_count_126 : decode cX10_count 126 = .ok (.getfield 15, 3) := by decide +kernel
theorem dX10_count_129 : decode cX10_count 129 = .ok (.bipush 11, 2) := by decide +kernel
theorem dX10_count_131 : decode cX10_count 131 = .ok (.iaload, 1) := by decide +kernel
theorem dX10_count_132 : decode cX10_count 132 = .ok (.ireturn, 1) := by decide +kernel
theorem dX10_count_133 : decode cX10_count 133 = .ok (.bipush (-2), 2) := by decide +kernel
theorem dX10_count_135 : decode cX10_count 135 = .ok (.ireturn, 1) := by decide +kernel
theorem dX10_those_0 : decode cX10_those 0 = .ok (.iconst 0, 1) := by decide +kernel
theorem dX10_those_1 : decode cX10_those 1 = .ok (.istore_n 2, 1) := by decide +kernel
theorem dX10_those_2 : decode cX10_those 2 = .ok (.iconst 0, 1) := by decide +kernel
theorem dX10_those_3 : decode cX10_those 3 = .ok (.istore_n 3, 1) := by decide +kernel
theorem dX10_those_4 : decode cX10_those 4 = .ok (.iload_n 3, 1) := by decide +kernel
theorem dX10_those_5 : decode cX10_those 5 = .ok (.aload_n 0, 1) := by decide +kernel
theorem dX10_those_6 : decode cX10_those 6 = .ok (.getfield 92, 3) := by decide +kernel
theorem dX10_those_9 : decode cX10_those 9 = .ok (.if_icmp .ge 30, 3) := by decide +kernel
theorem dX10_those_12 : decode cX10_those 12 = .ok (.aload_n 0, 1) := by decide +kernel
theorem dX10_those_13 : decode cX10_those 13 = .ok (.getfield 11, 3) := by decide +kernel
theorem dX10_those_16 : decode cX10_those 16 = .ok (.iload_n 3, 1) := by decide +kernel
theorem dX10_those_17 : decode cX10_those 17 = .ok (.aaload, 1) := by decide +kernel
theorem dX10_those_18 : decode cX10_those 18 = .ok (.getfield 102, 3) := by decide +kernel
theorem dX10_those_21 : decode cX10_those 21 = .ok (.iconst 4, 1) := by decide +kernel
theorem dX10_those_22 : decode cX10_those 22 = .ok (.iaload, 1) := by decide +kernel
theorem dX10_those_23 : decode cX10_those 23 = .ok (.iload_n 1, 1) := by decide +kernel
theorem dX10_those_24 : decode cX10_those 24 = .ok (.if_icmp .ne 9, 3) := by decide +kernel
theorem dX10_those_27 : decode cX10_those 27 = .ok (.iload_n 2, 1) := by decide +kernel
theorem dX10_those_28 : decode cX10_those 28 = .ok (.iconst 1, 1) := by decide +kernel
theorem dX10_those_29 : decode cX10_those 29 = .ok (.iload_n 3, 1) := by decide +kernel
theorem dX10_those_30 : decode cX10_those 30 = .ok (.ishl, 1) := by decide +kernel
theorem dX10_those_31 : decode cX10_those 31 = .ok (.ior, 1) := by decide +kernel
theorem dX10_those_32 : decode cX10_those 32 = .ok (.istore_n 2, 1) := by decide +kernel
theorem dX10_those_33 : decode cX10_those 33 = .ok (.iinc 3 1, 3) := by decide +kernel
theorem dX10_those_36 : decode cX10_those 36 = .ok (.goto (-32), 3) := by decide +kernel
theorem dX10_those_39 : decode cX10_those 39 = .ok (.iload_n 2, 1) := by decide +kernel
theorem dX10_those_40 : decode cX10_those 40 = .ok (.ireturn, 1) := by decide +kernel
theorem dX10_areOnTheLake_0 : decode cX10_areOnTheLake 0 = .ok (.iload_n 1, 1) := by decide +kernel
theorem dX10_areOnTheLake_1 : decode cX10_areOnTheLake 1 = .ok (.aload_n 0, 1) := by decide +kernel
theorem dX10_areOnTheLake_2 : decode cX10_areOnTheLake 2 = .ok (.iconst 0, 1) := by decide +kernel
theorem dX10_areOnTheLake_3 : decode cX10_areOnTheLake 3 = .ok (.invokevirtual 245, 3) := by decide +kernel
theorem dX10_areOnTheLake_6 : decode cX10_areOnTheLake 6 = .ok (.iconst (-1), 1) := by decide +kernel
theorem dX10_areOnTheLake_7 : decode cX10_areOnTheLake 7 = .ok (.ixor, 1) := by decide +kernel
theorem dX10_areOnTheLake_8 : decode cX10_areOnTheLake 8 = .ok (.iand, 1) := by decide +kernel
theorem dX10_areOnTheLake_9 : decode cX10_areOnTheLake 9 = .ok (.ifCond .ne 7, 3) := by decide +kernel
theorem dX10_areOnTheLake_12 : decode cX10_areOnTheLake 12 = .ok (.iconst 1, 1) := by decide +kernel
theorem dX10_areOnTheLake_13 : decode cX10_areOnTheLake 13 = .ok (.goto 4, 3) := by decide +kernel
theorem dX10_areOnTheLake_16 : decode cX10_areOnTheLake 16 = .ok (.iconst 0, 1) := by decide +kernel
theorem dX10_areOnTheLake_17 : decode cX10_areOnTheLake 17 = .ok (.ireturn, 1) := by decide +kernel
theorem dX10_readyTug_0 : decode cX10_readyTug 0 = .ok (.iconst 0, 1) := by decide +kernel
theorem dX10_readyTug_1 : decode cX10_readyTug 1 = .ok (.istore_n 1, 1) := by decide +kernel
theorem dX10_readyTug_2 : decode cX10_readyTug 2 = .ok (.iload_n 1, 1) := by decide +kernel
theorem dX10_readyTug_3 : decode cX10_readyTug 3 = .ok (.aload_n 0, 1) := by decide +kernel
theorem dX10_readyTug_4 : decode cX10_readyTug 4 = .ok (.getfield 92, 3) := by decide +kernel
theorem dX10_readyTug_7 : decode cX10_readyTug 7 = .ok (.if_icmp .ge 29, 3) := by decide +kernel
theorem dX10_readyTug_10 : decode cX10_readyTug 10 = .ok (.aload_n 0, 1) := by decide +kernel
theorem dX10_readyTug_11 : decode cX10_readyTug 11 = .ok (.getfield 45, 3) := by decide +kernel
theorem dX10_readyTug_14 : decode cX10_readyTug 14 = .ok (.getfield 271, 3) := by decide +kernel
theorem dX10_readyTug_17 : decode cX10_readyTug 17 = .ok (.iload_n 1, 1) := by decide +kernel
theorem dX10_readyTug_18 : decode cX10_readyTug 18 = .ok (.aload_n 0, 1) := by decide +kernel
theorem dX10_readyTug_19 : decode cX10_readyTug 19 = .ok (.getfield 11, 3) := by decide +kernel
theorem dX10_readyTug_22 : decode cX10_readyTug 22 = .ok (.iload_n 1, 1) := by decide +kernel
theorem dX10_readyTug_23 : decode cX10_readyTug 23 = .ok (.aaload, 1) := by decide +kernel
theorem dX10_readyTug_24 : decode cX10_readyTug 24 = .ok (.getfield 102, 3) := by decide +kernel
theorem dX10_readyTug_27 : decode cX10_readyTug 27 = .ok (.iconst 0, 1) := by decide +kernel
theorem dX10_readyTug_28 : decode cX10_readyTug 28 = .ok (.iaload, 1) := by decide +kernel
theorem dX10_readyTug_29 : decode cX10_readyTug 29 = .ok (.iastore, 1) := by decide +kernel
theorem dX10_readyTug_30 : decode cX10_readyTug 30 = .ok (.iinc 1 1, 3) := by decide +kernel
theorem dX10_readyTug_33 : decode cX10_readyTug 33 = .ok (.goto (-31), 3) := by decide +kernel
theorem dX10_readyTug_36 : decode cX10_readyTug 36 = .ok (.aload_n 0, 1) := by decide +kernel
theorem dX10_readyTug_37 : decode cX10_readyTug 37 = .ok (.getfield 45, 3) := by decide +kernel
theorem dX10_readyTug_40 : decode cX10_readyTug 40 = .ok (.aload_n 0, 1) := by decide +kernel
theorem dX10_readyTug_41 : decode cX10_readyTug 41 = .ok (.getfield 15, 3) := by decide +kernel
theorem dX10_readyTug_44 : decode cX10_readyTug 44 = .ok (.bipush 6, 2) := by decide +kernel
theorem dX10_readyTug_46 : decode cX10_readyTug 46 = .ok (.iaload, 1) := by decide +kernel
theorem dX10_readyTug_47 : decode cX10_readyTug 47 = .ok (.putfield 274, 3) := by decide +kernel
theorem dX10_readyTug_50 : decode cX10_readyTug 50 = .ok (.aload_n 0, 1) := by decide +kernel
theorem dX10_readyTug_51 : decode cX10_readyTug 51 = .ok (.getfield 45, 3) := by decide +kernel
theorem dX10_readyTug_54 : decode cX10_readyTug 54 = .ok (.aload_n 0, 1) := by decide +kernel
theorem dX10_readyTug_55 : decode cX10_readyTug 55 = .ok (.getfield 15, 3) := by decide +kernel
theorem dX10_readyTug_58 : decode cX10_readyTug 58 = .ok (.bipush 7, 2) := by decide +kernel
theorem dX10_readyTug_60 : decode cX10_readyTug 60 = .ok (.iaload, 1) := by decide +kernel
theorem dX10_readyTug_61 : decode cX10_readyTug 61 = .ok (.putfield 277, 3) := by decide +kernel
theorem dX10_readyTug_64 : decode cX10_readyTug 64 = .ok (.return_, 1) := by decide +kernel
theorem dX10_inBy_0 : decode cX10_inBy 0 = .ok (.aload_n 0, 1) := by decide +kernel
theorem dX10_inBy_1 : decode cX10_inBy 1 = .ok (.iconst 2, 1) := by decide +kernel
theorem dX10_inBy_2 : decode cX10_inBy 2 = .ok (.invokevirtual 245, 3) := by decide +kernel
theorem dX10_inBy_5 : decode cX10_inBy 5 = .ok (.istore_n 2, 1) := by decide +kernel
theorem dX10_inBy_6 : decode cX10_inBy 6 = .ok (.iconst 0, 1) := by decide +kernel
theorem dX10_inBy_7 : decode cX10_inBy 7 = .ok (.istore_n 3, 1) := by decide +kernel
theorem dX10_inBy_8 : decode cX10_inBy 8 = .ok (.iload_n 3, 1) := by decide +kernel
theorem dX10_inBy_9 : decode cX10_inBy 9 = .ok (.aload_n 0, 1) := by decide +kernel
theorem dX10_inBy_10 : decode cX10_inBy 10 = .ok (.getfield 92, 3) := by decide +kernel
theorem dX10_inBy_13 : decode cX10_inBy 13 = .ok (.if_icmp .ge 34, 3) := by decide +kernel
theorem dX10_inBy_16 : decode cX10_inBy 16 = .ok (.aload_n 0, 1) := by decide +kernel
theorem dX10_inBy_17 : decode cX10_inBy 17 = .ok (.iload_n 3, 1) := by decide +kernel
theorem dX10_inBy_18 : decode cX10_inBy 18 = .ok (.invokevirtual 176, 3) := by decide +kernel
theorem dX10_inBy_21 : decode cX10_inBy 21 = .ok (.istore 4, 2) := by decide +kernel
theorem dX10_inBy_23 : decode cX10_inBy 23 = .ok (.iload 4, 2) := by decide +kernel
theorem dX10_inBy_25 : decode cX10_inBy 25 = .ok (.iconst (-1), 1) := by decide +kernel
theorem dX10_inBy_26 : decode cX10_inBy 26 = .ok (.if_icmp .eq 15, 3) := by decide +kernel
theorem dX10_inBy_29 : decode cX10_inBy 29 = .ok (.iload 4, 2) := by decide +kernel
theorem dX10_inBy_31 : decode cX10_inBy 31 = .ok (.iload_n 1, 1) := by decide +kernel
theorem dX10_inBy_32 : decode cX10_inBy 32 = .ok (.if_icmp .gt 9, 3) := by decide +kernel
theorem dX10_inBy_35 : decode cX10_inBy 35 = .ok (.iload_n 2, 1) := by decide +kernel
theorem dX10_inBy_36 : decode cX10_inBy 36 = .ok (.iconst 1, 1) := by decide +kernel
theorem dX10_inBy_37 : decode cX10_inBy 37 = .ok (.iload_n 3, 1) := by decide +kernel
theorem dX10_inBy_38 : decode cX10_inBy 38 = .ok (.ishl, 1) := by decide +kernel
theorem dX10_inBy_39 : decode cX10_inBy 39 = .ok (.ior, 1) := by decide +kernel
theorem dX10_inBy_40 : decode cX10_inBy 40 = .ok (.istore_n 2, 1) := by decide +kernel
theorem dX10_inBy_41 : decode cX10_inBy 41 = .ok (.iinc 3 1, 3) := by decide +kernel
theorem dX10_inBy_44 : decode cX10_inBy 44 = .ok (.goto (-36), 3) := by decide +kernel
theorem dX10_inBy_47 : decode cX10_inBy 47 = .ok (.iload_n 2, 1) := by decide +kernel
theorem dX10_inBy_48 : decode cX10_inBy 48 = .ok (.ireturn, 1) := by decide +kernel
theorem dX10_mostFetched_0 : decode cX10_mostFetched 0 = .ok (.aload_n 0, 1) := by decide +kernel
theorem dX10_mostFetched_1 : decode cX10_mostFetched 1 = .ok (.invokevirtual 205, 3) := by decide +kernel
theorem dX10_mostFetched_4 : decode cX10_mostFetched 4 = .ok (.iconst 0, 1) := by decide +kernel
theorem dX10_mostFetched_5 : decode cX10_mostFetched 5 = .ok (.istore_n 3, 1) := by decide +kernel
theorem dX10_mostFetched_6 : decode cX10_mostFetched 6 = .ok (.iload_n 1, 1) := by decide +kernel
theorem dX10_mostFetched_7 : decode cX10_mostFetched 7 = .ok (.istore 4, 2) := by decide +kernel
theorem dX10_mostFetched_9 : decode cX10_mostFetched 9 = .ok (.iload 4, 2) := by decide +kernel
theorem dX10_mostFetched_11 : decode cX10_mostFetched 11 = .ok (.ifCond .le 47, 3) := by decide +kernel
theorem dX10_mostFetched_14 : decode cX10_mostFetched 14 = .ok (.iload 4, 2) := by decide +kernel
theorem dX10_mostFetched_16 : decode cX10_mostFetched 16 = .ok (.invokestatic 248, 3) := by decide +kernel
theorem dX10_mostFetched_19 : decode cX10_mostFetched 19 = .ok (.istore 5, 2) := by decide +kernel
theorem dX10_mostFetched_21 : decode cX10_mostFetched 21 = .ok (.iload 4, 2) := by decide +kernel
theorem dX10_mostFetched_23 : decode cX10_mostFetched 23 = .ok (.iload_n 1, 1) := by decide +kernel
theorem dX10_mostFetched_24 : decode cX10_mostFetched 24 = .ok (.iconst (-1), 1) := by decide +kernel
theorem dX10_mostFetched_25 : decode cX10_mostFetched 25 = .ok (.ixor, 1) := by decide +kernel
theorem dX10_mostFetched_26 : decode cX10_mostFetched 26 = .ok (.iand, 1) := by decide +kernel
theorem dX10_mostFetched_27 : decode cX10_mostFetched 27 = .ok (.ifCond .ne 25, 3) := by decide +kernel
theorem dX10_mostFetched_30 : decode cX10_mostFetched 30 = .ok (.iload 5, 2) := by decide +kernel
theorem dX10_mostFetched_32 : decode cX10_mostFetched 32 = .ok (.iload_n 3, 1) := by decide +kernel
theorem dX10_mostFetched_33 : decode cX10_mostFetched 33 = .ok (.if_icmp .le 19, 3) := by decide +kernel
theorem dX10_mostFetched_36 : decode cX10_mostFetched 36 = .ok (.aload_n 0, 1) := by decide +kernel
theorem dX10_mostFetched_37 : decode cX10_mostFetched 37 = .ok (.getfield 45, 3) := by decide +kernel
theorem dX10_mostFetched_40 : decode cX10_mostFetched 40 = .ok (.iload 4, 2) := by decide +kernel
theorem dX10_mostFetched_42 : decode cX10_mostFetched 42 = .ok (.invokevirtual 208, 3) := by decide +kernel
theorem dX10_mostFetched_45 : decode cX10_mostFetched 45 = .ok (.iload_n 2, 1) := by decide +kernel
theorem dX10_mostFetched_46 : decode cX10_mostFetched 46 = .ok (.if_icmp .gt 6, 3) := by decide +kernel
theorem dX10_mostFetched_49 : decode cX10_mostFetched 49 = .ok (.iload 5, 2) := by decide +kernel
theorem dX10_mostFetched_51 : decode cX10_mostFetched 51 = .ok (.istore_n 3, 1) := by decide +kernel
theorem dX10_mostFetched_52 : decode cX10_mostFetched 52 = .ok (.iinc 4 (-1), 3) := by decide +kernel
theorem dX10_mostFetched_55 : decode cX10_mostFetched 55 = .ok (.goto (-46), 3) := by decide +kernel
theorem dX10_mostFetched_58 : decode cX10_mostFetched 58 = .ok (.iload_n 3, 1) := by decide +kernel
theorem dX10_mostFetched_59 : decode cX10_mostFetched 59 = .ok (.ireturn, 1) := by decide +kernel
theorem dX10_orderComing_0 : decode cX10_orderComing 0 = .ok (.iconst 0, 1) := by decide +kernel
theorem dX10_orderComing_1 : decode cX10_orderComing 1 = .ok (.istore_n 1, 1) := by decide +kernel
theorem dX10_orderComing_2 : decode cX10_orderComing 2 = .ok (.iconst 0, 1) := by decide +kernel
theorem dX10_orderComing_3 : decode cX10_orderComing 3 = .ok (.istore_n 2, 1) := by decide +kernel
theorem dX10_orderComing_4 : decode cX10_orderComing 4 = .ok (.iload_n 2, 1) := by decide +kernel
theorem dX10_orderComing_5 : decode cX10_orderComing 5 = .ok (.aload_n 0, 1) := by decide +kernel
theorem dX10_orderComing_6 : decode cX10_orderComing 6 = .ok (.getfield 92, 3) := by decide +kernel
theorem dX10_orderComing_9 : decode cX10_orderComing 9 = .ok (.if_icmp .ge 29, 3) := by decide +kernel
theorem dX10_orderComing_12 : decode cX10_orderComing 12 = .ok (.aload_n 0, 1) := by decide +kernel
theorem dX10_orderComing_13 : decode cX10_orderComing 13 = .ok (.iload_n 2, 1) := by decide +kernel
theorem dX10_orderComing_14 : decode cX10_orderComing 14 = .ok (.invokevirtual 176, 3) := by decide +kernel
theorem dX10_orderComing_17 : decode cX10_orderComing 17 = .ok (.istore_n 3, 1) := by decide +kernel
theorem dX10_orderComing_18 : decode cX10_orderComing 18 = .ok (.iload_n 3, 1) := by decide +kernel
theorem dX10_orderComing_19 : decode cX10_orderComing 19 = .ok (.iconst (-1), 1) := by decide +kernel
theorem dX10_orderComing_20 : decode cX10_orderComing 20 = .ok (.if_icmp .eq 12, 3) := by decide +kernel
theorem dX10_orderComing_23 : decode cX10_orderComing 23 = .ok (.aload_n 0, 1) := by decide +kernel
theorem dX10_orderComing_24 : decode cX10_orderComing 24 = .ok (.iload_n 3, 1) := by decide +kernel
theorem dX10_orderComing_25 : decode cX10_orderComing 25 = .ok (.iload_n 1, 1) := by decide +kernel
theorem dX10_orderComing_26 : decode cX10_orderComing 26 = .ok (.invokevirtual 280, 3) := by decide +kernel
theorem dX10_orderComing_29 : decode cX10_orderComing 29 = .ok (.iinc 1 1, 3) := by decide +kernel
theorem dX10_orderComing_32 : decode cX10_orderComing 32 = .ok (.iinc 2 1, 3) := by decide +kernel
theorem dX10_orderComing_35 : decode cX10_orderComing 35 = .ok (.goto (-31), 3) := by decide +kernel
theorem dX10_orderComing_38 : decode cX10_orderComing 38 = .ok (.iload_n 1, 1) := by decide +kernel
theorem dX10_orderComing_39 : decode cX10_orderComing 39 = .ok (.ireturn, 1) := by decide +kernel
theorem dX10_putInOrder_0 : decode cX10_putInOrder 0 = .ok (.iload_n 2, 1) := by decide +kernel
theorem dX10_putInOrder_1 : decode cX10_putInOrder 1 = .ok (.istore_n 3, 1) := by decide +kernel
theorem dX10_putInOrder_2 : decode cX10_putInOrder 2 = .ok (.iload_n 3, 1) := by decide +kernel
theorem dX10_putInOrder_3 : decode cX10_putInOrder 3 = .ok (.ifCond .le 35, 3) := by decide +kernel
theorem dX10_putInOrder_6 : decode cX10_putInOrder 6 = .ok (.aload_n 0, 1) := by decide +kernel
theorem dX10_putInOrder_7 : decode cX10_putInOrder 7 = .ok (.getfield 49, 3) := by decide +kernel
theorem dX10_putInOrder_10 : decode cX10_putInOrder 10 = .ok (.iload_n 3, 1) := by decide +kernel
theorem dX10_putInOrder_11 : decode cX10_putInOrder 11 = .ok (.iconst 1, 1) := by decide +kernel
theorem dX10_putInOrder_12 : decode cX10_putInOrder 12 = .ok (.isub, 1) := by decide +kernel
theorem dX10_putInOrder_13 : decode cX10_putInOrder 13 = .ok (.iaload, 1) := by decide +kernel
theorem dX10_putInOrder_14 : decode cX10_putInOrder 14 = .ok (.iload_n 1, 1) := by decide +kernel
theorem dX10_putInOrder_15 : decode cX10_putInOrder 15 = .ok (.if_icmp .le 23, 3) := by decide +kernel
theorem dX10_putInOrder_18 : decode cX10_putInOrder 18 = .ok (.aload_n 0, 1) := by decide +kernel
theorem dX10_putInOrder_19 : decode cX10_putInOrder 19 = .ok (.getfield 49, 3) := by decide +kernel
theorem dX10_putInOrder_22 : decode cX10_putInOrder 22 = .ok (.iload_n 3, 1) := by decide +kernel
theorem dX10_putInOrder_23 : decode cX10_putInOrder 23 = .ok (.aload_n 0, 1) := by decide +kernel
theorem dX10_putInOrder_24 : decode cX10_putInOrder 24 = .ok (.getfield 49, 3) := by decide +kernel
theorem dX10_putInOrder_27 : decode cX10_putInOrder 27 = .ok (.iload_n 3, 1) := by decide +kernel
theorem dX10_putInOrder_28 : decode cX10_putInOrder 28 = .ok (.iconst 1, 1) := by decide +kernel
theorem dX10_putInOrder_29 : decode cX10_putInOrder 29 = .ok (.isub, 1) := by decide +kernel
theorem dX10_putInOrder_30 : decode cX10_putInOrder 30 = .ok (.iaload, 1) := by decide +kernel
theorem dX10_putInOrder_31 : decode cX10_putInOrder 31 = .ok (.iastore, 1) := by decide +kernel
theorem dX10_putInOrder_32 : decode cX10_putInOrder 32 = .ok (.iinc 3 (-1), 3) := by decide +kernel
theorem dX10_putInOrder_35 : decode cX10_putInOrder 35 = .ok (.goto (-33), 3) := by decide +kernel
theorem dX10_putInOrder_38 : decode cX10_putInOrder 38 = .ok (.aload_n 0, 1) := by decide +kernel
theorem dX10_putInOrder_39 : decode cX10_putInOrder 39 = .ok (.getfield 49, 3) := by decide +kernel
theorem dX10_putInOrder_42 : decode cX10_putInOrder 42 = .ok (.iload_n 3, 1) := by decide +kernel
theorem dX10_putInOrder_43 : decode cX10_putInOrder 43 = .ok (.iload_n 1, 1) := by decide +kernel
theorem dX10_putInOrder_44 : decode cX10_putInOrder 44 = .ok (.iastore, 1) := by decide +kernel
theorem dX10_putInOrder_45 : decode cX10_putInOrder 45 = .ok (.return_, 1) := by decide +kernel
theorem dX10_isTrue_0 : decode cX10_isTrue 0 = .ok (.aload_n 0, 1) := by decide +kernel
theorem dX10_isTrue_1 : decode cX10_isTrue 1 = .ok (.iload_n 1, 1) := by decide +kernel
theorem dX10_isTrue_2 : decode cX10_isTrue 2 = .ok (.invokevirtual 99, 3) := by decide +kernel
theorem dX10_isTrue_5 : decode cX10_isTrue 5 = .ok (.ifCond .eq 20, 3) := by decide +kernel
theorem dX10_isTrue_8 : decode cX10_isTrue 8 = .ok (.iload_n 2, 1) := by decide +kernel
theorem dX10_isTrue_9 : decode cX10_isTrue 9 = .ok (.ifCond .lt 16, 3) := by decide +kernel
theorem dX10_isTrue_12 : decode cX10_isTrue 12 = .ok (.iload_n 2, 1) := by decide +kernel
theorem dX10_isTrue_13 : decode cX10_isTrue 13 = .ok (.iconst 1, 1) := by decide +kernel
theorem dX10_isTrue_14 : decode cX10_isTrue 14 = .ok (.if_icmp .gt 11, 3) := by decide +kernel
theorem dX10_isTrue_17 : decode cX10_isTrue 17 = .ok (.aload_n 0, 1) := by decide +kernel
theorem dX10_isTrue_18 : decode cX10_isTrue 18 = .ok (.iload_n 1, 1) := by decide +kernel
theorem dX10_isTrue_19 : decode cX10_isTrue 19 = .ok (.invokevirtual 163, 3) := by decide +kernel
theorem dX10_isTrue_22 : decode cX10_isTrue 22 = .ok (.ifCond .ne 5, 3) := by decide +kernel
theorem dX10_isTrue_25 : decode cX10_isTrue 25 = .ok (.iconst 0, 1) := by decide +kernel
theorem dX10_isTrue_26 : decode cX10_isTrue 26 = .ok (.ireturn, 1) := by decide +kernel
theorem dX10_isTrue_27 : decode cX10_isTrue 27 = .ok (.aload_n 0, 1) := by decide +kernel
theorem dX10_isTrue_28 : decode cX10_isTrue 28 = .ok (.iload_n 1, 1) := by decide +kernel
theorem dX10_isTrue_29 : decode cX10_isTrue 29 = .ok (.invokevirtual 115, 3) := by decide +kernel
theorem dX10_isTrue_32 : decode cX10_isTrue 32 = .ok (.iload_n 2, 1) := by decide +kernel
theorem dX10_isTrue_33 : decode cX10_isTrue 33 = .ok (.iconst 1, 1) := by decide +kernel
theorem dX10_isTrue_34 : decode cX10_isTrue 34 = .ok (.if_icmp .ne 7, 3) := by decide +kernel
theorem dX10_isTrue_37 : decode cX10_isTrue 37 = .ok (.iconst 1, 1) := by decide +kernel
theorem dX10_isTrue_38 : decode cX10_isTrue 38 = .ok (.goto 4, 3) := by decide +kernel
theorem dX10_isTrue_41 : decode cX10_isTrue 41 = .ok (.iconst 0, 1) := by decide +kernel
theorem dX10_isTrue_42 : decode cX10_isTrue 42 = .ok (.if_icmp .ne 7, 3) := by decide +kernel
theorem dX10_isTrue_45 : decode cX10_isTrue 45 = .ok (.iconst 1, 1) := by decide +kernel
theorem dX10_isTrue_46 : decode cX10_isTrue 46 = .ok (.goto 4, 3) := by decide +kernel
theorem dX10_isTrue_49 : decode cX10_isTrue 49 = .ok (.iconst 0, 1) := by decide +kernel
theorem dX10_isTrue_50 : decode cX10_isTrue 50 = .ok (.ireturn, 1) := by decide +kernel
theorem dX10_drawnWind_0 : decode cX10_drawnWind 0 = .ok (.iload_n 0, 1) := by decide +kernel
theorem dX10_drawnWind_1 : decode cX10_drawnWind 1 = .ok (.ldc_w 283, 3) := by decide +kernel
theorem dX10_drawnWind_4 : decode cX10_drawnWind 4 = .ok (.imul, 1) := by decide +kernel
theorem dX10_drawnWind_5 : decode cX10_drawnWind 5 = .ok (.sipush 12345, 3) := by decide +kernel
theorem dX10_drawnWind_8 : decode cX10_drawnWind 8 = .ok (.iadd, 1) := by decide +kernel
theorem dX10_drawnWind_9 : decode cX10_drawnWind 9 = .ok (.istore_n 1, 1) := by decide +kernel
theorem dX10_drawnWind_10 : decode cX10_drawnWind 10 = .ok (.iload_n 1, 1) := by decide +kernel
theorem dX10_drawnWind_11 : decode cX10_drawnWind 11 = .ok (.bipush 10, 2) := by decide +kernel
theorem dX10_drawnWind_13 : decode cX10_drawnWind 13 = .ok (.iushr, 1) := by decide +kernel
theorem dX10_drawnWind_14 : decode cX10_drawnWind 14 = .ok (.bipush 10, 2) := by decide +kernel
theorem dX10_drawnWind_16 : decode cX10_drawnWind 16 = .ok (.irem, 1) := by decide +kernel
theorem dX10_drawnWind_17 : decode cX10_drawnWind 17 = .ok (.ireturn, 1) := by decide +kernel
theorem dX10_commonDivisor_0 : decode cX10_commonDivisor 0 = .ok (.iload_n 1, 1) := by decide +kernel
theorem dX10_commonDivisor_1 : decode cX10_commonDivisor 1 = .ok (.istore_n 2, 1) := by decide +kernel
theorem dX10_commonDivisor_2 : decode cX10_commonDivisor 2 = .ok (.iload_n 2, 1) := by decide +kernel
theorem dX10_commonDivisor_3 : decode cX10_commonDivisor 3 = .ok (.iconst 1, 1) := by decide +kernel
theorem dX10_commonDivisor_4 : decode cX10_commonDivisor 4 = .ok (.if_icmp .le 23, 3) := by decide +kernel
theorem dX10_commonDivisor_7 : decode cX10_commonDivisor 7 = .ok (.iload_n 0, 1) := by decide +kernel
theorem dX10_commonDivisor_8 : decode cX10_commonDivisor 8 = .ok (.iload_n 2, 1) := by decide +kernel
theorem dX10_commonDivisor_9 : decode cX10_commonDivisor 9 = .ok (.irem, 1) := by decide +kernel
theorem dX10_commonDivisor_10 : decode cX10_commonDivisor 10 = .ok (.ifCond .ne 11, 3) := by decide +kernel
theorem dX10_commonDivisor_13 : decode cX10_commonDivisor 13 = .ok (.iload_n 1, 1) := by decide +kernel
theorem dX10_commonDivisor_14 : decode cX10_commonDivisor 14 = .ok (.iload_n 2, 1) := by decide +kernel
theorem dX10_commonDivisor_15 : decode cX10_commonDivisor 15 = .ok (.irem, 1) := by decide +kernel
theorem dX10_commonDivisor_16 : decode cX10_commonDivisor 16 = .ok (.ifCond .ne 5, 3) := by decide +kernel
theorem dX10_commonDivisor_19 : decode cX10_commonDivisor 19 = .ok (.iload_n 2, 1) := by decide +kernel
theorem dX10_commonDivisor_20 : decode cX10_commonDivisor 20 = .ok (.ireturn, 1) := by decide +kernel
theorem dX10_commonDivisor_21 : decode cX10_commonDivisor 21 = .ok (.iinc 2 (-1), 3) := by decide +kernel
theorem dX10_commonDivisor_24 : decode cX10_commonDivisor 24 = .ok (.goto (-22), 3) := by decide +kernel
theorem dX10_commonDivisor_27 : decode cX10_commonDivisor 27 = .ok (.iconst 1, 1) := by decide +kernel
theorem dX10_commonDivisor_28 : decode cX10_commonDivisor 28 = .ok (.ireturn, 1) := by decide +kernel
theorem dX10_sheet_0 : decode cX10_sheet 0 = .ok (.iload_n 1, 1) := by decide +kernel
theorem dX10_sheet_1 : decode cX10_sheet 1 = .ok (.invokestatic 226, 3) := by decide +kernel
theorem dX10_sheet_4 : decode cX10_sheet 4 = .ok (.ifCond .eq 13, 3) := by decide +kernel
theorem dX10_sheet_7 : decode cX10_sheet 7 = .ok (.iload_n 2, 1) := by decide +kernel
theorem dX10_sheet_8 : decode cX10_sheet 8 = .ok (.iconst (-1), 1) := by decide +kernel
theorem dX10_sheet_9 : decode cX10_sheet 9 = .ok (.if_icmp .lt 8, 3) := by decide +kernel
theorem dX10_sheet_12 : decode cX10_sheet 12 = .ok (.iload_n 2, 1) := by decide +kernel
theorem dX10_sheet_13 : decode cX10_sheet 13 = .ok (.iconst 2, 1) := by decide +kernel
theorem dX10_sheet_14 : decode cX10_sheet 14 = .ok (.if_icmp .le 6, 3) := by decide +kernel
theorem dX10_sheet_17 : decode cX10_sheet 17 = .ok (.bipush (-2), 2) := by decide +kernel
theorem dX10_sheet_19 : decode cX10_sheet 19 = .ok (.ireturn, 1) := by decide +kernel
theorem dX10_sheet_20 : decode cX10_sheet 20 = .ok (.iload_n 2, 1) := by decide +kernel
theorem dX10_sheet_21 : decode cX10_sheet 21 = .ok (.iconst (-1), 1) := by decide +kernel
theorem dX10_sheet_22 : decode cX10_sheet 22 = .ok (.if_icmp .ne 16, 3) := by decide +kernel
theorem dX10_sheet_25 : decode cX10_sheet 25 = .ok (.aload_n 0, 1) := by decide +kernel
theorem dX10_sheet_26 : decode cX10_sheet 26 = .ok (.getfield 54, 3) := by decide +kernel
theorem dX10_sheet_29 : decode cX10_sheet 29 = .ok (.iload_n 1, 1) := by decide +kernel
theorem dX10_sheet_30 : decode cX10_sheet 30 = .ok (.aaload, 1) := by decide +kernel
theorem dX10_sheet_31 : decode cX10_sheet 31 = .ok (.iload_n 2, 1) := by decide +kernel
theorem dX10_sheet_32 : decode cX10_sheet 32 = .ok (.iconst 0, 1) := by decide +kernel
theorem dX10_sheet_33 : decode cX10_sheet 33 = .ok (.invokevirtual 284, 3) := by decide +kernel
theorem dX10_sheet_36 : decode cX10_sheet 36 = .ok (.iconst 1, 1) := by decide +kernel
theorem dX10_sheet_37 : decode cX10_sheet 37 = .ok (.ireturn, 1) := by decide +kernel
theorem dX10_sheet_38 : decode cX10_sheet 38 = .ok (.iload_n 3, 1) := by decide +kernel
theorem dX10_sheet_39 : decode cX10_sheet 39 = .ok (.bipush 40, 2) := by decide +kernel
theorem dX10_sheet_41 : decode cX10_sheet 41 = .ok (.if_icmp .le 6, 3) := by decide +kernel
theorem dX10_sheet_44 : decode cX10_sheet 44 = .ok (.bipush (-2), 2) := by decide +kernel
theorem dX10_sheet_46 : decode cX10_sheet 46 = .ok (.ireturn, 1) := by decide +kernel
theorem dX10_sheet_47 : decode cX10_sheet 47 = .ok (.iload_n 3, 1) := by decide +kernel
theorem dX10_sheet_48 : decode cX10_sheet 48 = .ok (.ifCond .ge 6, 3) := by decide +kernel
theorem dX10_sheet_51 : decode cX10_sheet 51 = .ok (.bipush (-14), 2) := by decide +kernel
theorem dX10_sheet_53 : decode cX10_sheet 53 = .ok (.ireturn, 1) := by decide +kernel
theorem dX10_sheet_54 : decode cX10_sheet 54 = .ok (.aload_n 0, 1) := by decide +kernel
theorem dX10_sheet_55 : decode cX10_sheet 55 = .ok (.getfield 54, 3) := by decide +kernel
theorem dX10_sheet_58 : decode cX10_sheet 58 = .ok (.iload_n 1, 1) := by decide +kernel
theorem dX10_sheet_59 : decode cX10_sheet 59 = .ok (.aaload, 1) := by decide +kernel
theorem dX10_sheet_60 : decode cX10_sheet 60 = .ok (.iload_n 2, 1) := by decide +kernel
theorem dX10_sheet_61 : decode cX10_sheet 61 = .ok (.iload_n 3, 1) := by decide +kernel
theorem dX10_sheet_62 : decode cX10_sheet 62 = .ok (.invokevirtual 284, 3) := by decide +kernel
theorem dX10_sheet_65 : decode cX10_sheet 65 = .ok (.iconst 1, 1) := by decide +kernel
theorem dX10_sheet_66 : decode cX10_sheet 66 = .ok (.ireturn, 1) := by decide +kernel
theorem dX10_cell_0 : decode cX10_cell 0 = .ok (.iload_n 1, 1) := by decide +kernel
theorem dX10_cell_1 : decode cX10_cell 1 = .ok (.invokestatic 226, 3) := by decide +kernel
theorem dX10_cell_4 : decode cX10_cell 4 = .ok (.ifCond .ne 6, 3) := by decide +kernel
theorem dX10_cell_7 : decode cX10_cell 7 = .ok (.bipush (-2), 2) := by decide +kernel
theorem dX10_cell_9 : decode cX10_cell 9 = .ok (.ireturn, 1) := by decide +kernel
theorem dX10_cell_10 : decode cX10_cell 10 = .ok (.aload_n 0, 1) := by decide +kernel
theorem dX10_cell_11 : decode cX10_cell 11 = .ok (.getfield 54, 3) := by decide +kernel
theorem dX10_cell_14 : decode cX10_cell 14 = .ok (.iload_n 1, 1) := by decide +kernel
theorem dX10_cell_15 : decode cX10_cell 15 = .ok (.aaload, 1) := by decide +kernel
theorem dX10_cell_16 : decode cX10_cell 16 = .ok (.invokevirtual 229, 3) := by decide +kernel
theorem dX10_cell_19 : decode cX10_cell 19 = .ok (.ifCond .eq 6, 3) := by decide +kernel
theorem dX10_cell_22 : decode cX10_cell 22 = .ok (.bipush (-11), 2) := by decide +kernel
theorem dX10_cell_24 : decode cX10_cell 24 = .ok (.ireturn, 1) := by decide +kernel
theorem dX10_cell_25 : decode cX10_cell 25 = .ok (.aload_n 0, 1) := by decide +kernel
theorem dX10_cell_26 : decode cX10_cell 26 = .ok (.getfield 54, 3) := by decide +kernel
theorem dX10_cell_29 : decode cX10_cell 29 = .ok (.iload_n 1, 1) := by decide +kernel
theorem dX10_cell_30 : decode cX10_cell 30 = .ok (.aaload, 1) := by decide +kernel
theorem dX10_cell_31 : decode cX10_cell 31 = .ok (.iload_n 2, 1) := by decide +kernel
theorem dX10_cell_32 : decode cX10_cell 32 = .ok (.i2l, 1) := by decide +kernel
theorem dX10_cell_33 : decode cX10_cell 33 = .ok (.iconst 1, 1) := by decide +kernel
theorem dX10_cell_34 : decode cX10_cell 34 = .ok (.invokevirtual 287, 3) := by decide +kernel
theorem dX10_cell_37 : decode cX10_cell 37 = .ok (.ifCond .ne 6, 3) := by decide +kernel
theorem dX10_cell_40 : decode cX10_cell 40 = .ok (.bipush (-12), 2) := by decide +kernel
theorem dX10_cell_42 : decode cX10_cell 42 = .ok (.ireturn, 1) := by decide +kernel
theorem dX10_cell_43 : decode cX10_cell 43 = .ok (.aload_n 0, 1) := by decide +kernel
theorem dX10_cell_44 : decode cX10_cell 44 = .ok (.getfield 54, 3) := by decide +kernel
theorem dX10_cell_47 : decode cX10_cell 47 = .ok (.iload_n 1, 1) := by decide +kernel
theorem dX10_cell_48 : decode cX10_cell 48 = .ok (.aaload, 1) := by decide +kernel
theorem dX10_cell_49 : decode cX10_cell 49 = .ok (.iload_n 2, 1) := by decide +kernel
theorem dX10_cell_50 : decode cX10_cell 50 = .ok (.iload_n 3, 1) := by decide +kernel
theorem dX10_cell_51 : decode cX10_cell 51 = .ok (.invokevirtual 291, 3) := by decide +kernel
theorem dX10_cell_54 : decode cX10_cell 54 = .ok (.iconst 1, 1) := by decide +kernel
theorem dX10_cell_55 : decode cX10_cell 55 = .ok (.ireturn, 1) := by decide +kernel
theorem dX10_copy_0 : decode cX10_copy 0 = .ok (.iload_n 1, 1) := by decide +kernel
theorem dX10_copy_1 : decode cX10_copy 1 = .ok (.invokestatic 226, 3) := by decide +kernel
theorem dX10_copy_4 : decode cX10_copy 4 = .ok (.ifCond .eq 10, 3) := by decide +kernel
theorem dX10_copy_7 : decode cX10_copy 7 = .ok (.iload_n 3, 1) := by decide +kernel
theorem dX10_copy_8 : decode cX10_copy 8 = .ok (.invokestatic 226, 3) := by decide +kernel
theorem dX10_copy_11 : decode cX10_copy 11 = .ok (.ifCond .ne 6, 3) := by decide +kernel
theorem dX10_copy_14 : decode cX10_copy 14 = .ok (.bipush (-2), 2) := by decide +kernel
theorem dX10_copy_16 : decode cX10_copy 16 = .ok (.ireturn, 1) := by decide +kernel
theorem dX10_copy_17 : decode cX10_copy 17 = .ok (.aload_n 0, 1) := by decide +kernel
theorem dX10_copy_18 : decode cX10_copy 18 = .ok (.getfield 54, 3) := by decide +kernel
theorem dX10_copy_21 : decode cX10_copy 21 = .ok (.iload_n 1, 1) := by decide +kernel
theorem dX10_copy_22 : decode cX10_copy 22 = .ok (.aaload, 1) := by decide +kernel
theorem dX10_copy_23 : decode cX10_copy 23 = .ok (.astore 6, 2) := by decide +kernel
theorem dX10_copy_25 : decode cX10_copy 25 = .ok (.aload_n 0, 1) := by decide +kernel
theorem dX10_copy_26 : decode cX10_copy 26 = .ok (.getfield 54, 3) := by decide +kernel
theorem dX10_copy_29 : decode cX10_copy 29 = .ok (.iload_n 3, 1) := by decide +kernel
theorem dX10_copy_30 : decode cX10_copy 30 = .ok (.aaload, 1) := by decide +kernel
theorem dX10_copy_31 : decode cX10_copy 31 = .ok (.astore 7, 2) := by decide +kernel
theorem dX10_copy_33 : decode cX10_copy 33 = .ok (.aload 6, 2) := by decide +kernel
theorem dX10_copy_35 : decode cX10_copy 35 = .ok (.invokevirtual 229, 3) := by decide +kernel
theorem dX10_copy_38 : decode cX10_copy 38 = .ok (.ifCond .ne 11, 3) := by decide +kernel
theorem dX10_copy_41 : decode cX10_copy 41 = .ok (.aload 7, 2) := by decide +kernel
theorem dX10_copy_43 : decode cX10_copy 43 = .ok (.invokevirtual 229, 3) := by decide +kernel
theorem dX10_copy_46 : decode cX10_copy 46 = .ok (.ifCond .eq 6, 3) := by decide +kernel
theorem dX10_copy_49 : decode cX10_copy 49 = .ok (.bipush (-11), 2) := by decide +kernel
theorem dX10_copy_51 : decode cX10_copy 51 = .ok (.ireturn, 1) := by decide +kernel
theorem dX10_copy_52 : decode cX10_copy 52 = .ok (.aload 6, 2) := by decide +kernel
theorem dX10_copy_54 : decode cX10_copy 54 = .ok (.getfield 294, 3) := by decide +kernel
theorem dX10_copy_57 : decode cX10_copy 57 = .ok (.aload 7, 2) := by decide +kernel
theorem dX10_copy_59 : decode cX10_copy 59 = .ok (.getfield 294, 3) := by decide +kernel
theorem dX10_copy_62 : decode cX10_copy 62 = .ok (.if_icmp .eq 6, 3) := by decide +kernel
theorem dX10_copy_65 : decode cX10_copy 65 = .ok (.bipush (-13), 2) := by decide +kernel
theorem dX10_copy_67 : decode cX10_copy 67 = .ok (.ireturn, 1) := by decide +kernel
theorem dX10_copy_68 : decode cX10_copy 68 = .ok (.aload 6, 2) := by decide +kernel
theorem dX10_copy_70 : decode cX10_copy 70 = .ok (.iload_n 2, 1) := by decide +kernel
theorem dX10_copy_71 : decode cX10_copy 71 = .ok (.i2l, 1) := by decide +kernel
theorem dX10_copy_72 : decode cX10_copy 72 = .ok (.iload 5, 2) := by decide +kernel
theorem dX10_copy_74 : decode cX10_copy 74 = .ok (.invokevirtual 287, 3) := by decide +kernel
theorem dX10_copy_77 : decode cX10_copy 77 = .ok (.ifCond .eq 16, 3) := by decide +kernel
theorem dX10_copy_80 : decode cX10_copy 80 = .ok (.aload 7, 2) := by decide +kernel
theorem dX10_copy_82 : decode cX10_copy 82 = .ok (.iload 4, 2) := by decide +kernel
theorem dX10_copy_84 : decode cX10_copy 84 = .ok (.i2l, 1) := by decide +kernel
theorem dX10_copy_85 : decode cX10_copy 85 = .ok (.iload 5, 2) := by decide +kernel
theorem dX10_copy_87 : decode cX10_copy 87 = .ok (.invokevirtual 287, 3) := by decide +kernel
theorem dX10_copy_90 : decode cX10_copy 90 = .ok (.ifCond .ne 6, 3) := by decide +kernel
theorem dX10_copy_93 : decode cX10_copy 93 = .ok (.bipush (-12), 2) := by decide +kernel
theorem dX10_copy_95 : decode cX10_copy 95 = .ok (.ireturn, 1) := by decide +kernel
theorem dX10_copy_96 : decode cX10_copy 96 = .ok (.aload 6, 2) := by decide +kernel
theorem dX10_copy_98 : decode cX10_copy 98 = .ok (.getfield 297, 3) := by decide +kernel
theorem dX10_copy_101 : decode cX10_copy 101 = .ok (.iload_n 2, 1) := by decide +kernel
theorem dX10_copy_102 : decode cX10_copy 102 = .ok (.aload 7, 2) := by decide +kernel
theorem dX10_copy_104 : decode cX10_copy 104 = .ok (.getfield 297, 3) := by decide +kernel
theorem dX10_copy_107 : decode cX10_copy 107 = .ok (.iload 4, 2) := by decide +kernel
theorem dX10_copy_109 : decode cX10_copy 109 = .ok (.iload 5, 2) := by decide +kernel
theorem dX10_copy_111 : decode cX10_copy 111 = .ok (.invokestatic 259, 3) := by decide +kernel
theorem dX10_copy_114 : decode cX10_copy 114 = .ok (.iload 5, 2) := by decide +kernel
theorem dX10_copy_116 : decode cX10_copy 116 = .ok (.ireturn, 1) := by decide +kernel
theorem dX10_boats_0 : decode cX10_boats 0 = .ok (.iload_n 1, 1) := by decide +kernel
theorem dX10_boats_1 : decode cX10_boats 1 = .ok (.invokestatic 226, 3) := by decide +kernel
theorem dX10_boats_4 : decode cX10_boats 4 = .ok (.ifCond .eq 24, 3) := by decide +kernel
theorem dX10_boats_7 : decode cX10_boats 7 = .ok (.iload_n 2, 1) := by decide +kernel
theorem dX10_boats_8 : decode cX10_boats 8 = .ok (.ifCond .lt 20, 3) := by decide +kernel
theorem dX10_boats_11 : decode cX10_boats 11 = .ok (.iload_n 2, 1) := by decide +kernel
theorem dX10_boats_12 : decode cX10_boats 12 = .ok (.iconst 2, 1) := by decide +kernel
theorem dX10_boats_13 : decode cX10_boats 13 = .ok (.if_icmp .gt 15, 3) := by decide +kernel
theorem dX10_boats_16 : decode cX10_boats 16 = .ok (.iload 4, 2) := by decide +kernel
theorem dX10_boats_18 : decode cX10_boats 18 = .ok (.ifCond .lt 10, 3) := by decide +kernel
theorem dX10_boats_21 : decode cX10_boats 21 = .ok (.iload 4, 2) := by decide +kernel
theorem dX10_boats_23 : decode cX10_boats 23 = .ok (.bipush 7, 2) := by decide +kernel
theorem dX10_boats_25 : decode cX10_boats 25 = .ok (.if_icmp .le 6, 3) := by decide +kernel
theorem dX10_boats_28 : decode cX10_boats 28 = .ok (.bipush (-2), 2) := by decide +kernel
theorem dX10_boats_30 : decode cX10_boats 30 = .ok (.ireturn, 1) := by decide +kernel
theorem dX10_boats_31 : decode cX10_boats 31 = .ok (.aload_n 0, 1) := by decide +kernel
theorem dX10_boats_32 : decode cX10_boats 32 = .ok (.getfield 54, 3) := by decide +kernel
theorem dX10_boats_35 : decode cX10_boats 35 = .ok (.iload_n 1, 1) := by decide +kernel
theorem dX10_boats_36 : decode cX10_boats 36 = .ok (.aaload, 1) := by decide +kernel
theorem dX10_boats_37 : decode cX10_boats 37 = .ok (.astore 5, 2) := by decide +kernel
theorem dX10_boats_39 : decode cX10_boats 39 = .ok (.aload 5, 2) := by decide +kernel
theorem dX10_boats_41 : decode cX10_boats 41 = .ok (.invokevirtual 229, 3) := by decide +kernel
theorem dX10_boats_44 : decode cX10_boats 44 = .ok (.ifCond .ne 15, 3) := by decide +kernel
theorem dX10_boats_47 : decode cX10_boats 47 = .ok (.aload 5, 2) := by decide +kernel
theorem dX10_boats_49 : decode cX10_boats 49 = .ok (.getfield 294, 3) := by decide +kernel
theorem dX10_boats_52 : decode cX10_boats 52 = .ok (.iload_n 2, 1) := by decide +kernel
theorem dX10_boats_53 : decode cX10_boats 53 = .ok (.if_icmp .eq 6, 3) := by decide +kernel
theorem dX10_boats_56 : decode cX10_boats 56 = .ok (.bipush (-13), 2) := by decide +kernel
theorem dX10_boats_58 : decode cX10_boats 58 = .ok (.ireturn, 1) := by decide +kernel
theorem dX10_boats_59 : decode cX10_boats 59 = .ok (.aload 5, 2) := by decide +kernel
theorem dX10_boats_61 : decode cX10_boats 61 = .ok (.invokevirtual 229, 3) := by decide +kernel
theorem dX10_boats_64 : decode cX10_boats 64 = .ok (.ifCond .eq 6, 3) := by decide +kernel
theorem dX10_boats_67 : decode cX10_boats 67 = .ok (.bipush (-11), 2) := by decide +kernel
theorem dX10_boats_69 : decode cX10_boats 69 = .ok (.ireturn, 1) := by decide +kernel
theorem dX10_boats_70 : decode cX10_boats 70 = .ok (.iconst 0, 1) := by decide +kernel
theorem dX10_boats_71 : decode cX10_boats 71 = .ok (.istore 6, 2) := by decide +kernel
theorem dX10_boats_73 : decode cX10_boats 73 = .ok (.iconst 0, 1) := by decide +kernel
theorem dX10_boats_74 : decode cX10_boats 74 = .ok (.istore 7, 2) := by decide +kernel
theorem dX10_boats_76 : decode cX10_boats 76 = .ok (.iload 7, 2) := by decide +kernel
theorem dX10_boats_78 : decode cX10_boats 78 = .ok (.iload 4, 2) := by decide +kernel
theorem dX10_boats_80 : decode cX10_boats 80 = .ok (.if_icmp .ge 74, 3) := by decide +kernel
theorem dX10_boats_83 : decode cX10_boats 83 = .ok (.aload 5, 2) := by decide +kernel
theorem dX10_boats_85 : decode cX10_boats 85 = .ok (.iload_n 3, 1) := by decide +kernel
theorem dX10_boats_86 : decode cX10_boats 86 = .ok (.i2l, 1) := by decide +kernel
theorem dX10_boats_87 : decode cX10_boats 87 = .ok (.ldc2_w 300, 3) := by decide +kernel
theorem dX10_boats_90 : decode cX10_boats 90 = .ok (.iload 7, 2) := by decide +kernel
theorem dX10_boats_92 : decode cX10_boats 92 = .ok (.i2l, 1) := by decide +kernel
theorem dX10_boats_93 : decode cX10_boats 93 = .ok (.lmul, 1) := by decide +kernel
theorem dX10_boats_94 : decode cX10_boats 94 = .ok (.ladd, 1) := by decide +kernel
theorem dX10_boats_95 : decode cX10_boats 95 = .ok (.iconst 3, 1) := by decide +kernel
theorem dX10_boats_96 : decode cX10_boats 96 = .ok (.invokevirtual 287, 3) := by decide +kernel
theorem dX10_boats_99 : decode cX10_boats 99 = .ok (.ifCond .ne 6, 3) := by decide +kernel
theorem dX10_boats_102 : decode cX10_boats 102 = .ok (.bipush (-12), 2) := by decide +kernel
theorem dX10_boats_104 : decode cX10_boats 104 = .ok (.ireturn, 1) := by decide +kernel
theorem dX10_boats_105 : decode cX10_boats 105 = .ok (.iload_n 3, 1) := by decide +kernel
theorem dX10_boats_106 : decode cX10_boats 106 = .ok (.iconst 3, 1) := by decide +kernel
theorem dX10_boats_107 : decode cX10_boats 107 = .ok (.iload 7, 2) := by decide +kernel
theorem dX10_boats_109 : decode cX10_boats 109 = .ok (.imul, 1) := by decide +kernel
theorem dX10_boats_110 : decode cX10_boats 110 = .ok (.iadd, 1) := by decide +kernel
theorem dX10_boats_111 : decode cX10_boats 111 = .ok (.istore 8, 2) := by decide +kernel
theorem dX10_boats_113 : decode cX10_boats 113 = .ok (.aload_n 0, 1) := by decide +kernel
theorem dX10_boats_114 : decode cX10_boats 114 = .ok (.aload 5, 2) := by decide +kernel
theorem dX10_boats_116 : decode cX10_boats 116 = .ok (.iload 8, 2) := by decide +kernel
theorem dX10_boats_118 : decode cX10_boats 118 = .ok (.invokevirtual 234, 3) := by decide +kernel
theorem dX10_boats_121 : decode cX10_boats 121 = .ok (.aload 5, 2) := by decide +kernel
theorem dX10_boats_123 : decode cX10_boats 123 = .ok (.iload 8, 2) := by decide +kernel
theorem dX10_boats_125 : decode cX10_boats 125 = .ok (.iconst 1, 1) := by decide +kernel
theorem dX10_boats_126 : decode cX10_boats 126 = .ok (.iadd, 1) := by decide +kernel
theorem dX10_boats_127 : decode cX10_boats 127 = .ok (.invokevirtual 234, 3) := by decide +kernel
theorem dX10_boats_130 : decode cX10_boats 130 = .ok (.aload 5, 2) := by decide +kernel
theorem dX10_boats_132 : decode cX10_boats 132 = .ok (.iload 8, 2) := by decide +kernel
theorem dX10_boats_134 : decode cX10_boats 134 = .ok (.iconst 2, 1) := by decide +kernel
theorem dX10_boats_135 : decode cX10_boats 135 = .ok (.iadd, 1) := by decide +kernel
theorem dX10_boats_136 : decode cX10_boats 136 = .ok (.invokevirtual 234, 3) := by decide +kernel
theorem dX10_boats_139 : decode cX10_boats 139 = .ok (.invokevirtual 302, 3) := by decide +kernel
theorem dX10_boats_142 : decode cX10_boats 142 = .ok (.ifCond .lt 6, 3) := by decide +kernel
theorem dX10_boats_145 : decode cX10_boats 145 = .ok (.iinc 6 1, 3) := by decide +kernel
theorem dX10_boats_148 : decode cX10_boats 148 = .ok (.iinc 7 1, 3) := by decide +kernel
theorem dX10_boats_151 : decode cX10_boats 151 = .ok (.goto (-75), 3) := by decide +kernel
theorem dX10_boats_154 : decode cX10_boats 154 = .ok (.iload 6, 2) := by decide +kernel
theorem dX10_boats_156 : decode cX10_boats 156 = .ok (.ireturn, 1) := by decide +kernel
theorem dX10_taken_0 : decode cX10_taken 0 = .ok (.iload_n 2, 1) := by decide +kernel
theorem dX10_taken_1 : decode cX10_taken 1 = .ok (.ifCond .lt 8, 3) := by decide +kernel
theorem dX10_taken_4 : decode cX10_taken 4 = .ok (.iload_n 2, 1) := by decide +kernel
theorem dX10_taken_5 : decode cX10_taken 5 = .ok (.iconst 5, 1) := by decide +kernel
theorem dX10_taken_6 : decode cX10_taken 6 = .ok (.if_icmp .le 6, 3) := by decide +kernel
theorem dX10_taken_9 : decode cX10_taken 9 = .ok (.bipush (-2), 2) := by decide +kernel
theorem dX10_taken_11 : decode cX10_taken 11 = .ok (.ireturn, 1) := by decide +kernel
theorem dX10_taken_12 : decode cX10_taken 12 = .ok (.aload_n 0, 1) := by decide +kernel
theorem dX10_taken_13 : decode cX10_taken 13 = .ok (.iload_n 1, 1) := by decide +kernel
theorem dX10_taken_14 : decode cX10_taken 14 = .ok (.invokevirtual 99, 3) := by decide +kernel
theorem dX10_taken_17 : decode cX10_taken 17 = .ok (.ifCond .ne 6, 3) := by decide +kernel
theorem dX10_taken_20 : decode cX10_taken 20 = .ok (.bipush (-11), 2) := by decide +kernel
theorem dX10_taken_22 : decode cX10_taken 22 = .ok (.ireturn, 1) := by decide +kernel
theorem dX10_taken_23 : decode cX10_taken 23 = .ok (.aload_n 0, 1) := by decide +kernel
theorem dX10_taken_24 : decode cX10_taken 24 = .ok (.getfield 11, 3) := by decide +kernel
theorem dX10_taken_27 : decode cX10_taken 27 = .ok (.iload_n 1, 1) := by decide +kernel
theorem dX10_taken_28 : decode cX10_taken 28 = .ok (.aaload, 1) := by decide +kernel
theorem dX10_taken_29 : decode cX10_taken 29 = .ok (.iload_n 2, 1) := by decide +kernel
theorem dX10_taken_30 : decode cX10_taken 30 = .ok (.invokestatic 306, 3) := by decide +kernel
theorem dX10_taken_33 : decode cX10_taken 33 = .ok (.ifCond .eq 17, 3) := by decide +kernel
theorem dX10_taken_36 : decode cX10_taken 36 = .ok (.aload_n 0, 1) := by decide +kernel
theorem dX10_taken_37 : decode cX10_taken 37 = .ok (.getfield 11, 3) := by decide +kernel
theorem dX10_taken_40 : decode cX10_taken 40 = .ok (.iload_n 1, 1) := by decide +kernel
theorem dX10_taken_41 : decode cX10_taken 41 = .ok (.aaload, 1) := by decide +kernel
theorem dX10_taken_42 : decode cX10_taken 42 = .ok (.getfield 102, 3) := by decide +kernel
theorem dX10_taken_45 : decode cX10_taken 45 = .ok (.iconst 3, 1) := by decide +kernel
theorem dX10_taken_46 : decode cX10_taken 46 = .ok (.iaload, 1) := by decide +kernel
theorem dX10_taken_47 : decode cX10_taken 47 = .ok (.goto 5, 3) := by decide +kernel
theorem dX10_taken_50 : decode cX10_taken 50 = .ok (.bipush (-13), 2) := by decide +kernel
theorem dX10_taken_52 : decode cX10_taken 52 = .ok (.ireturn, 1) := by decide +kernel
theorem dX10_isSheet_0 : decode cX10_isSheet 0 = .ok (.iload_n 0, 1) := by decide +kernel
theorem dX10_isSheet_1 : decode cX10_isSheet 1 = .ok (.ifCond .lt 12, 3) := by decide +kernel
theorem dX10_isSheet_4 : decode cX10_isSheet 4 = .ok (.iload_n 0, 1) := by decide +kernel
theorem dX10_isSheet_5 : decode cX10_isSheet 5 = .ok (.iconst 4, 1) := by decide +kernel
theorem dX10_isSheet_6 : decode cX10_isSheet 6 = .ok (.if_icmp .ge 7, 3) := by decide +kernel
theorem dX10_isSheet_9 : decode cX10_isSheet 9 = .ok (.iconst 1, 1) := by decide +kernel
theorem dX10_isSheet_10 : decode cX10_isSheet 10 = .ok (.goto 4, 3) := by decide +kernel
theorem dX10_isSheet_13 : decode cX10_isSheet 13 = .ok (.iconst 0, 1) := by decide +kernel
theorem dX10_isSheet_14 : decode cX10_isSheet 14 = .ok (.ireturn, 1) := by decide +kernel
theorem dX10_isOf_0 : decode cX10_isOf 0 = .ok (.iload_n 1, 1) := by decide +kernel
theorem dX10_isOf_1 : decode cX10_isOf 1 = .ok (.tableswitch 60 1 5 #[35, 40, 45, 50, 55], 35) := by decide +kernel
theorem dX10_isOf_36 : decode cX10_isOf 36 = .ok (.aload_n 0, 1) := by decide +kernel
theorem dX10_isOf_37 : decode cX10_isOf 37 = .ok (.instanceof 128, 3) := by decide +kernel
theorem dX10_isOf_40 : decode cX10_isOf 40 = .ok (.ireturn, 1) := by decide +kernel
theorem dX10_isOf_41 : decode cX10_isOf 41 = .ok (.aload_n 0, 1) := by decide +kernel
theorem dX10_isOf_42 : decode cX10_isOf 42 = .ok (.instanceof 133, 3) := by decide +kernel
theorem dX10_isOf_45 : decode cX10_isOf 45 = .ok (.ireturn, 1) := by decide +kernel
theorem dX10_isOf_46 : decode cX10_isOf 46 = .ok (.aload_n 0, 1) := by decide +kernel
theorem dX10_isOf_47 : decode cX10_isOf 47 = .ok (.instanceof 136, 3) := by decide +kernel
theorem dX10_isOf_50 : decode cX10_isOf 50 = .ok (.ireturn, 1) := by decide +kernel
theorem dX10_isOf_51 : decode cX10_isOf 51 = .ok (.aload_n 0, 1) := by decide +kernel
theorem dX10_isOf_52 : decode cX10_isOf 52 = .ok (.instanceof 139, 3) := by decide +kernel
theorem dX10_isOf_55 : decode cX10_isOf 55 = .ok (.ireturn, 1) := by decide +kernel
theorem dX10_isOf_56 : decode cX10_isOf 56 = .ok (.aload_n 0, 1) := by decide +kernel
theorem dX10_isOf_57 : decode cX10_isOf 57 = .ok (.instanceof 142, 3) := by decide +kernel
theorem dX10_isOf_60 : decode cX10_isOf 60 = .ok (.ireturn, 1) := by decide +kernel
theorem dX10_isOf_61 : decode cX10_isOf 61 = .ok (.iconst 1, 1) := by decide +kernel
theorem dX10_isOf_62 : decode cX10_isOf 62 = .ok (.ireturn, 1) := by decide +kernel
theorem dX11_init_0 : decode cX11_init 0 = .ok (.aload_n 0, 1) := by decide +kernel
theorem dX11_init_1 : decode cX11_init 1 = .ok (.invokespecial 1, 3) := by decide +kernel
theorem dX11_init_4 : decode cX11_init 4 = .ok (.aload_n 0, 1) := by decide +kernel
theorem dX11_init_5 : decode cX11_init 5 = .ok (.bipush 7, 2) := by decide +kernel
theorem dX11_init_7 : decode cX11_init 7 = .ok (.newarray .int, 2) := by decide +kernel
theorem dX11_init_9 : decode cX11_init 9 = .ok (.putfield 7, 3) := by decide +kernel
theorem dX11_init_12 : decode cX11_init 12 = .ok (.aload_n 0, 1) := by decide +kernel
theorem dX11_init_13 : decode cX11_init 13 = .ok (.bipush 7, 2) := by decide +kernel
theorem dX11_init_15 : decode cX11_init 15 = .ok (.newarray .int, 2) := by decide +kernel
theorem dX11_init_17 : decode cX11_init 17 = .ok (.putfield 13, 3) := by decide +kernel
theorem dX11_init_20 : decode cX11_init 20 = .ok (.aload_n 0, 1) := by decide +kernel
theorem dX11_init_21 : decode cX11_init 21 = .ok (.bipush 7, 2) := by decide +kernel
theorem dX11_init_23 : decode cX11_init 23 = .ok (.newarray .int, 2) := by decide +kernel
theorem dX11_init_25 : decode cX11_init 25 = .ok (.putfield 16, 3) := by decide +kernel
theorem dX11_init_28 : decode cX11_init 28 = .ok (.aload_n 0, 1) := by decide +kernel
theorem dX11_init_29 : decode cX11_init 29 = .ok (.bipush 7, 2) := by decide +kernel
theorem dX11_init_31 : decode cX11_init 31 = .ok (.newarray .int, 2) := by decide +kernel
theorem dX11_init_33 : decode cX11_init 33 = .ok (.putfield 19, 3) := by decide +kernel
theorem dX11_init_36 : decode cX11_init 36 = .ok (.aload_n 0, 1) := by decide +kernel
theorem dX11_init_37 : decode cX11_init 37 = .ok (.bipush 7, 2) := by decide +kernel
theorem dX11_init_39 : decode cX11_init 39 = .ok (.newarray .int, 2) := by decide +kernel
theorem dX11_init_41 : decode cX11_init 41 = .ok (.putfield 22, 3) := by decide +kernel
theorem dX11_init_44 : decode cX11_init 44 = .ok (.aload_n 0, 1) := by decide +kernel
theorem dX11_init_45 : decode cX11_init 45 = .ok (.bipush 7, 2) := by decide +kernel
theorem dX11_init_47 : decode cX11_init 47 = .ok (.newarray .int, 2) := by decide +kernel
theorem dX11_init_49 : decode cX11_init 49 = .ok (.putfield 25, 3) := by decide +kernel
theorem dX11_init_52 : decode cX11_init 52 = .ok (.aload_n 0, 1) := by decide +kernel
theorem dX11_init_53 : decode cX11_init 53 = .ok (.bipush 7, 2) := by decide +kernel
theorem dX11_init_55 : decode cX11_init 55 = .ok (.newarray .int, 2) := by decide +kernel
theorem dX11_init_57 : decode cX11_init 57 = .ok (.putfield 28, 3) := by decide +kernel
theorem dX11_init_60 : decode cX11_init 60 = .ok (.aload_n 0, 1) := by decide +kernel
theorem dX11_init_61 : decode cX11_init 61 = .ok (.sipush 160, 3) := by decide +kernel
theorem dX11_init_64 : decode cX11_init 64 = .ok (.newarray .int, 2) := by decide +kernel
theorem dX11_init_66 : decode cX11_init 66 = .ok (.putfield 31, 3) := by decide +kernel
theorem dX11_init_69 : decode cX11_init 69 = .ok (.aload_n 0, 1) := by decide +kernel
theorem dX11_init_70 : decode cX11_init 70 = .ok (.sipush 1020, 3) := by decide +kernel
theorem dX11_init_73 : decode cX11_init 73 = .ok (.newarray .int, 2) := by decide +kernel
theorem dX11_init_75 : decode cX11_init 75 = .ok (.putfield 34, 3) := by decide +kernel
theorem dX11_init_78 : decode cX11_init 78 = .ok (.aload_n 0, 1) := by decide +kernel
theorem dX11_init_79 : decode cX11_init 79 = .ok (.bipush 24, 2) := by decide +kernel
theorem dX11_init_81 : decode cX11_init 81 = .ok (.newarray .int, 2) := by decide +kernel
theorem dX11_init_83 : decode cX11_init 83 = .ok (.putfield 37, 3) := by decide +kernel
theorem dX11_init_86 : decode cX11_init 86 = .ok (.aload_n 0, 1) := by decide +kernel
theorem dX11_init_87 : decode cX11_init 87 = .ok (.sipush 170, 3) := by decide +kernel
theorem dX11_init_90 : decode cX11_init 90 = .ok (.newarray .int, 2) := by decide +kernel
theorem dX11_init_92 : decode cX11_init 92 = .ok (.putfield 40, 3) := by decide +kernel
theorem dX11_init_95 : decode cX11_init 95 = .ok (.aload_n 0, 1) := by decide +kernel
theorem dX11_init_96 : decode cX11_init 96 = .ok (.bipush 6, 2) := by decide +kernel
theorem dX11_init_98 : decode cX11_init 98 = .ok (.newarray .int, 2) := by decide +kernel
theorem dX11_init_100 : decode cX11_init 100 = .ok (.putfield 43, 3) := by decide +kernel
theorem dX11_init_103 : decode cX11_init 103 = .ok (.aload_n 0, 1) := by decide +kernel
theorem dX11_init_104 : decode cX11_init 104 = .ok (.bipush 7, 2) := by decide +kernel
theorem dX11_init_106 : decode cX11_init 106 = .ok (.newarray .int, 2) := by decide +kernel
theorem dX11_init_108 : decode cX11_init 108 = .ok (.putfield 46, 3) := by decide +kernel
theorem dX11_init_111 : decode cX11_init 111 = .ok (.aload_n 0, 1) := by decide +kernel
theorem dX11_init_112 : decode cX11_init 112 = .ok (.bipush 7, 2) := by decide +kernel
theorem dX11_init_114 : decode cX11_init 114 = .ok (.newarray .int, 2) := by decide +kernel
theorem dX11_init_116 : decode cX11_init 116 = .ok (.putfield 49, 3) := by decide +kernel
theorem dX11_init_119 : decode cX11_init 119 = .ok (.aload_n 0, 1) := by decide +kernel
theorem dX11_init_120 : decode cX11_init 120 = .ok (.bipush 7, 2) := by decide +kernel
theorem dX11_init_122 : decode cX11_init 122 = .ok (.newarray .int, 2) := by decide +kernel
theorem dX11_init_124 : decode cX11_init 124 = .ok (.putfield 52, 3) := by decide +kernel
theorem dX11_init_127 : decode cX11_init 127 = .ok (.aload_n 0, 1) := by decide +kernel
theorem dX11_init_128 : decode cX11_init 128 = .ok (.bipush 50, 2) := by decide +kernel
theorem dX11_init_130 : decode cX11_init 130 = .ok (.newarray .int, 2) := by decide +kernel
theorem dX11_init_132 : decode cX11_init 132 = .ok (.putfield 55, 3) := by decide +kernel
theorem dX11_init_135 : decode cX11_init 135 = .ok (.aload_n 0, 1) := by decide +kernel
theorem dX11_init_136 : decode cX11_init 136 = .ok (.iconst 4, 1) := by decide +kernel
theorem dX11_init_137 : decode cX11_init 137 = .ok (.newarray .int, 2) := by decide +kernel
theorem dX11_init_139 : decode cX11_init 139 = .ok (.putfield 58, 3) := by decide +kernel
theorem dX11_init_142 : decode cX11_init 142 = .ok (.aload_n 0, 1) := by decide +kernel
theorem dX11_init_143 : decode cX11_init 143 = .ok (.iconst 4, 1) := by decide +kernel
theorem dX11_init_144 : decode cX11_init 144 = .ok (.newarray .int, 2) := by decide +kernel
theorem dX11_init_146 : decode cX11_init 146 = .ok (.putfield 61, 3) := by decide +kernel
theorem dX11_init_149 : decode cX11_init 149 = .ok (.aload_n 0, 1) := by decide +kernel
theorem dX11_init_150 : decode cX11_init 150 = .ok (.sipush 160, 3) := by decide +kernel
theorem dX11_init_153 : decode cX11_init 153 = .ok (.newarray .int, 2) := by decide +kernel
theorem dX11_init_155 : decode cX11_init 155 = .ok (.putfield 64, 3) := by decide +kernel
theorem dX11_init_158 : decode cX11_init 158 = .ok (.aload_n 0, 1) := by decide +kernel
theorem dX11_init_159 : decode cX11_init 159 = .ok (.bipush 40, 2) := by decide +kernel
theorem dX11_init_161 : decode cX11_init 161 = .ok (.newarray .int, 2) := by decide +kernel
theorem dX11_init_163 : decode cX11_init 163 = .ok (.putfield 67, 3) := by decide +kernel
theorem dX11_init_166 : decode cX11_init 166 = .ok (.iconst 0, 1) := by decide +kernel
theorem dX11_init_167 : decode cX11_init 167 = .ok (.istore_n 1, 1) := by decide +kernel
theorem dX11_init_168 : decode cX11_init 168 = .ok (.iload_n 1, 1) := by decide +kernel
theorem dX11_init_169 : decode cX11_init 169 = .ok (.iconst 4, 1) := by decide +kernel
theorem dX11_init_170 : decode cX11_init 170 = .ok (.if_icmp .ge 16, 3) := by decide +kernel
theorem dX11_init_173 : decode cX11_init 173 = .ok (.aload_n 0, 1) := by decide +kernel
theorem dX11_init_174 : decode cX11_init 174 = .ok (.getfield 58, 3) := by decide +kernel
theorem dX11_init_177 : decode cX11_init 177 = .ok (.iload_n 1, 1) := by decide +kernel
theorem dX11_init_178 : decode cX11_init 178 = .ok (.iconst (-1), 1) := by decide +kernel
theorem dX11_init_179 : decode cX11_init 179 = .ok (.iastore, 1) := by decide +kernel
theorem dX11_init_180 : decode cX11_init 180 = .ok (.iinc 1 1, 3) := by decide +kernel
theorem dX11_init_183 : decode cX11_init 183 = .ok (.goto (-15), 3) := by decide +kernel
theorem dX11_init_186 : decode cX11_init 186 = .ok (.aload_n 0, 1) := by decide +kernel
theorem dX11_init_187 : decode cX11_init 187 = .ok (.bipush 27, 2) := by decide +kernel
theorem dX11_init_189 : decode cX11_init 189 = .ok (.putfield 70, 3) := by decide +kernel
theorem dX11_init_192 : decode cX11_init 192 = .ok (.aload_n 0, 1) := by decide +kernel
theorem dX11_init_193 : decode cX11_init 193 = .ok (.iconst 2, 1) := by decide +kernel
theorem dX11_init_194 : decode cX11_init 194 = .ok (.putfield 74, 3) := by decide +kernel
theorem dX11_init_197 : decode cX11_init 197 = .ok (.aload_n 0, 1) := by decide +kernel
theorem dX11_init_198 : decode cX11_init 198 = .ok (.iconst 1, 1) := by decide +kernel
theorem dX11_init_199 : decode cX11_init 199 = .ok (.putfield 77, 3) := by decide +kernel
theorem dX11_init_202 : decode cX11_init 202 = .ok (.ldc 80, 2) := by decide +kernel
theorem dX11_init_204 : decode cX11_init 204 = .ok (.astore_n 1, 1) := by decide +kernel
theorem dX11_init_205 : decode cX11_init 205 = .ok (.iconst 0, 1) := by decide +kernel
theorem dX11_init_206 : decode cX11_init 206 = .ok (.istore_n 2, 1) := by decide +kernel
theorem dX11_init_207 : decode cX11_init 207 = .ok (.iload_n 2, 1) := by decide +kernel
theorem dX11_init_208 : decode cX11_init 208 = .ok (.aload_n 1, 1) := by decide +kernel
theorem dX11_init_209 : decode cX11_init 209 = .ok (.invokevirtual 82, 3) := by decide +kernel
theorem dX11_init_212 : decode cX11_init 212 = .ok (.if_icmp .ge 19, 3) := by decide +kernel
theorem dX11_init_215 : decode cX11_init 215 = .ok (.aload_n 0, 1) := by decide +kernel
theorem dX11_init_216 : decode cX11_init 216 = .ok (.aload_n 1, 1) := by decide +kernel
theorem dX11_init_217 : decode cX11_init 217 = .ok (.iload_n 2, 1) := by decide +kernel
theorem dX11_init_218 : decode cX11_init 218 = .ok (.invokevirtual 88, 3) := by decide +kernel
theorem dX11_init_221 : decode cX11_init 221 = .ok (.invokevirtual 92, 3) := by decide +kernel
theorem dX11_init_224 : decode cX11_init 224 = .ok (.pop, 1) := by decide +kernel
theorem dX11_init_225 : decode cX11_init 225 = .ok (.iinc 2 1, 3) := by decide +kernel
theorem dX11_init_228 : decode cX11_init 228 = .ok (.goto (-21), 3) := by decide +kernel
theorem dX11_init_231 : decode cX11_init 231 = .ok (.aload_n 0, 1) := by decide +kernel
theorem dX11_init_232 : decode cX11_init 232 = .ok (.invokevirtual 96, 3) := by decide +kernel
theorem dX11_init_235 : decode cX11_init 235 = .ok (.pop, 1) := by decide +kernel
theorem dX11_init_236 : decode cX11_init 236 = .ok (.return_, 1) := by decide +kernel
theorem dX11_within_0 : decode cX11_within 0 = .ok (.iload_n 0, 1) := by decide +kernel
theorem dX11_within_1 : decode cX11_within 1 = .ok (.iload_n 1, 1) := by decide +kernel
theorem dX11_within_2 : decode cX11_within 2 = .ok (.if_icmp .lt 12, 3) := by decide +kernel
theorem dX11_within_5 : decode cX11_within 5 = .ok (.iload_n 0, 1) := by decide +kernel
theorem dX11_within_6 : decode cX11_within 6 = .ok (.iload_n 2, 1) := by decide +kernel
theorem dX11_within_7 : decode cX11_within 7 = .ok (.if_icmp .gt 7, 3) := by decide +kernel
theorem dX11_within_10 : decode cX11_within 10 = .ok (.iconst 1, 1) := by decide +kernel
theorem dX11_within_11 : decode cX11_within 11 = .ok (.goto 4, 3) := by decide +kernel
theorem dX11_within_14 : decode cX11_within 14 = .ok (.iconst 0, 1) := by decide +kernel
theorem dX11_within_15 : decode cX11_within 15 = .ok (.ireturn, 1) := by decide +kernel
theorem dX11_isBoat_0 : decode cX11_isBoat 0 = .ok (.iload_n 1, 1) := by decide +kernel
theorem dX11_isBoat_1 : decode cX11_isBoat 1 = .ok (.iconst 0, 1) := by decide +kernel
theorem dX11_isBoat_2 : decode cX11_isBoat 2 = .ok (.aload_n 0, 1) := by decide +kernel
theorem dX11_isBoat_3 : decode cX11_isBoat 3 = .ok (.getfield 99, 3) := by decide +kernel
theorem dX11_isBoat_6 : decode cX11_isBoat 6 = .ok (.iconst 1, 1) := by decide +kernel
theorem dX11_isBoat_7 : decode cX11_isBoat 7 = .ok (.isub, 1) := by decide +kernel
theorem dX11_isBoat_8 : decode cX11_isBoat 8 = .ok (.invokestatic 102, 3) := by decide +kernel
theorem dX11_isBoat_11 : decode cX11_isBoat 11 = .ok (.ireturn, 1) := by decide +kernel
theorem dX11_far_0 : decode cX11_far 0 = .ok (.iload_n 0, 1) := by decide +kernel
theorem dX11_far_1 : decode cX11_far 1 = .ok (.bipush 8, 2) := by decide +kernel
theorem dX11_far_3 : decode cX11_far 3 = .ok (.idiv, 1) := by decide +kernel
theorem dX11_far_4 : decode cX11_far 4 = .ok (.iload_n 1, 1) := by decide +kernel
theorem dX11_far_5 : decode cX11_far 5 = .ok (.bipush 8, 2) := by decide +kernel
theorem dX11_far_7 : decode cX11_far 7 = .ok (.idiv, 1) := by decide +kernel
theorem dX11_far_8 : decode cX11_far 8 = .ok (.isub, 1) := by decide +kernel
theorem dX11_far_9 : decode cX11_far 9 = .ok (.invokestatic 106, 3) := by decide +kernel
theorem dX11_far_12 : decode cX11_far 12 = .ok (.iload_n 0, 1) := by decide +kernel
theorem dX11_far_13 : decode cX11_far 13 = .ok (.bipush 8, 2) := by decide +kernel
theorem dX11_far_15 : decode cX11_far 15 = .ok (.irem, 1) := by decide +kernel
theorem dX11_far_16 : decode cX11_far 16 = .ok (.iload_n 1, 1) := by decide +kernel
theorem dX11_far_17 : decode cX11_far 17 = .ok (.bipush 8, 2) := by decide +kernel
theorem dX11_far_19 : decode cX11_far 19 = .ok (.irem, 1) := by decide +kernel
theorem dX11_far_20 : decode cX11_far 20 = .ok (.isub, 1) := by decide +kernel
theorem dX11_far_21 : decode cX11_far 21 = .ok (.invokestatic 106, 3) := by decide +kernel
theorem dX11_far_24 : decode cX11_far 24 = .ok (.iadd, 1) := by decide +kernel
theorem dX11_far_25 : decode cX11_far 25 = .ok (.ireturn, 1) := by decide +kernel
theorem dX11_boat_0 : decode cX11_boat 0 = .ok (.iload_n 1, 1) := by decide +kernel
theorem dX11_boat_1 : decode cX11_boat 1 = .ok (.iconst 0, 1) := by decide +kernel
theorem dX11_boat_2 : decode cX11_boat 2 = .ok (.iconst 5, 1) := by decide +kernel
theorem dX11_boat_3 : decode cX11_boat 3 = .ok (.invokestatic 102, 3) := by decide +kernel
theorem dX11_boat_6 : decode cX11_boat 6 = .ok (.ifCond .eq 35, 3) := by decide +kernel
theorem dX11_boat_9 : decode cX11_boat 9 = .ok (.iload_n 2, 1) := by decide +kernel
theorem dX11_boat_10 : decode cX11_boat 10 = .ok (.iconst 0, 1) := by decide +kernel
theorem dX11_boat_11 : decode cX11_boat 11 = .ok (.sipush 4709, 3) := by decide +kernel
theorem dX11_boat_14 : decode cX11_boat 14 = .ok (.invokestatic 102, 3) := by decide +kernel
theorem dX11_boat_17 : decode cX11_boat 17 = .ok (.ifCond .eq 24, 3) := by decide +kernel
theorem dX11_boat_20 : decode cX11_boat 20 = .ok (.iload_n 2, 1) := by decide +kernel
theorem dX11_boat_21 : decode cX11_boat 21 = .ok (.bipush 100, 2) := by decide +kernel
theorem dX11_boat_23 : decode cX11_boat 23 = .ok (.irem, 1) := by decide +kernel
theorem dX11_boat_24 : decode cX11_boat 24 = .ok (.bipush 9, 2) := by decide +kernel
theorem dX11_boat_26 : decode cX11_boat 26 = .ok (.if_icmp .gt 15, 3) := by decide +kernel
theorem dX11_boat_29 : decode cX11_boat 29 = .ok (.iload_n 3, 1) := by decide +kernel
theorem dX11_boat_30 : decode cX11_boat 30 = .ok (.sipush 5000, 3) := by decide +kernel
theorem dX11_boat_33 : decode cX11_boat 33 = .ok (.ldc 111, 2) := by decide +kernel
theorem dX11_boat_35 : decode cX11_boat 35 = .ok (.invokestatic 102, 3) := by decide +kernel
theorem dX11_boat_38 : decode cX11_boat 38 = .ok (.ifCond .ne 6, 3) := by decide +kernel
theorem dX11_boat_41 : decode cX11_boat 41 = .ok (.bipush (-2), 2) := by decide +kernel
theorem dX11_boat_43 : decode cX11_boat 43 = .ok (.ireturn, 1) := by decide +kernel
theorem dX11_boat_44 : decode cX11_boat 44 = .ok (.aload_n 0, 1) := by decide +kernel
theorem dX11_boat_45 : decode cX11_boat 45 = .ok (.getfield 99, 3) := by decide +kernel
theorem dX11_boat_48 : decode cX11_boat 48 = .ok (.bipush 7, 2) := by decide +kernel
theorem dX11_boat_50 : decode cX11_boat 50 = .ok (.if_icmp .ne 6, 3) := by decide +kernel
theorem dX11_boat_53 : decode cX11_boat 53 = .ok (.bipush (-4), 2) := by decide +kernel
theorem dX11_boat_55 : decode cX11_boat 55 = .ok (.ireturn, 1) := by decide +kernel
theorem dX11_boat_56 : decode cX11_boat 56 = .ok (.aload_n 0, 1) := by decide +kernel
theorem dX11_boat_57 : decode cX11_boat 57 = .ok (.getfield 7, 3) := by decide +kernel
theorem dX11_boat_60 : decode cX11_boat 60 = .ok (.aload_n 0, 1) := by decide +kernel
theorem dX11_boat_61 : decode cX11_boat 61 = .ok (.getfield 99, 3) := by decide +kernel
theorem dX11_boat_64 : decode cX11_boat 64 = .ok (.iload_n 1, 1) := by decide +kernel
theorem dX11_boat_65 : decode cX11_boat 65 = .ok (.iastore, 1) := by decide +kernel
theorem dX11_boat_66 : decode cX11_boat 66 = .ok (.aload_n 0, 1) := by decide +kernel
theorem dX11_boat_67 : decode cX11_boat 67 = .ok (.getfield 16, 3) := by decide +kernel
theorem dX11_boat_70 : decode cX11_boat 70 = .ok (.aload_n 0, 1) := by decide +kernel
theorem dX11_boat_71 : decode cX11_boat 71 = .ok (.getfield 99, 3) := by decide +kernel
theorem dX11_boat_74 : decode cX11_boat 74 = .ok (.iload_n 2, 1) := by decide +kernel
theorem dX11_boat_75 : decode cX11_boat 75 = .ok (.bipush 100, 2) := by decide +kernel
theorem dX11_boat_77 : decode cX11_boat 77 = .ok (.idiv, 1) := by decide +kernel
theorem dX11_boat_78 : decode cX11_boat 78 = .ok (.iastore, 1) := by decide +kernel
theorem dX11_boat_79 : decode cX11_boat 79 = .ok (.aload_n 0, 1) := by decide +kernel
theorem dX11_boat_80 : decode cX11_boat 80 = .ok (.getfield 13, 3) := by decide +kernel
theorem dX11_boat_83 : decode cX11_boat 83 = .ok (.aload_n 0, 1) := by decide +kernel
theorem dX11_boat_84 : decode cX11_boat 84 = .ok (.getfield 99, 3) := by decide +kernel
theorem dX11_boat_87 : decode cX11_boat 87 = .ok (.iload_n 2, 1) := by decide +kernel
theorem dX11_boat_88 : decode cX11_boat 88 = .ok (.bipush 100, 2) := by decide +kernel
theorem dX11_boat_90 : decode cX11_boat 90 = .ok (.irem, 1) := by decide +kernel
theorem dX11_boat_91 : decode cX11_boat 91 = .ok (.iastore, 1) := by decide +kernel
theorem dX11_boat_92 : decode cX11_boat 92 = .ok (.aload_n 0, 1) := by decide +kernel
theorem dX11_boat_93 : decode cX11_boat 93 = .ok (.getfield 22, 3) := by decide +kernel
theorem dX11_boat_96 : decode cX11_boat 96 = .ok (.aload_n 0, 1) := by decide +kernel
theorem dX11_boat_97 : decode cX11_boat 97 = .ok (.getfield 99, 3) := by decide +kernel
theorem dX11_boat_100 : decode cX11_boat 100 = .ok (.iload_n 3, 1) := by decide +kernel
theorem dX11_boat_101 : decode cX11_boat 101 = .ok (.sipush 1000, 3) := by decide +kernel
theorem dX11_boat_104 : decode cX11_boat 104 = .ok (.idiv, 1) := by decide +kernel
theorem dX11_boat_105 : decode cX11_boat 105 = .ok (.iastore, 1) := by decide +kernel
theorem dX11_boat_106 : decode cX11_boat 106 = .ok (.aload_n 0, 1) := by decide +kernel
theorem dX11_boat_107 : decode cX11_boat 107 = .ok (.getfield 19, 3) := by decide +kernel
theorem dX11_boat_110 : decode cX11_boat 110 = .ok (.aload_n 0, 1) := by decide +kernel
theorem dX11_boat_111 : decode cX11_boat 111 = .ok (.getfield 99, 3) := by decide +kernel
theorem dX11_boat_114 : decode cX11_boat 114 = .ok (.iload_n 3, 1) := by decide +kernel
theorem dX11_boat_115 : decode cX11_boat 115 = .ok (.sipush 1000, 3) := by decide +kernel
theorem dX11_boat_118 : decode cX11_boat 118 = .ok (.irem, 1) := by decide +kernel
theorem dX11_boat_119 : decode cX11_boat 119 = .ok (.iastore, 1) := by decide +kernel
theorem dX11_boat_120 : decode cX11_boat 120 = .ok (.aload_n 0, 1) := by decide +kernel
theorem dX11_boat_121 : decode cX11_boat 121 = .ok (.getfield 25, 3) := by decide +kernel
theorem dX11_boat_124 : decode cX11_boat 124 = .ok (.aload_n 0, 1) := by decide +kernel
theorem dX11_boat_125 : decode cX11_boat 125 = .ok (.getfield 99, 3) := by decide +kernel
theorem dX11_boat_128 : decode cX11_boat 128 = .ok (.iconst 0, 1) := by decide +kernel
theorem dX11_boat_129 : decode cX11_boat 129 = .ok (.iastore, 1) := by decide +kernel
theorem dX11_boat_130 : decode cX11_boat 130 = .ok (.aload_n 0, 1) := by decide +kernel
theorem dX11_boat_131 : decode cX11_boat 131 = .ok (.getfield 28, 3) := by decide +kernel
theorem dX11_boat_134 : decode cX11_boat 134 = .ok (.aload_n 0, 1) := by decide +kernel
theorem dX11_boat_135 : decode cX11_boat 135 = .ok (.getfield 99, 3) := by decide +kernel
theorem dX11_boat_138 : decode cX11_boat 138 = .ok (.iconst (-1), 1) := by decide +kernel
theorem dX11_boat_139 : decode cX11_boat 139 = .ok (.iastore, 1) := by decide +kernel
theorem dX11_boat_140 : decode cX11_boat 140 = .ok (.aload_n 0, 1) := by decide +kernel
theorem dX11_boat_141 : decode cX11_boat 141 = .ok (.dup, 1) := by decide +kernel
theorem dX11_boat_142 : decode cX11_boat 142 = .ok (.getfield 99, 3) := by decide +kernel
theorem dX11_boat_145 : decode cX11_boat 145 = .ok (.dup_x1, 1) := by decide +kernel
theorem dX11_boat_146 : decode cX11_boat 146 = .ok (.iconst 1, 1) := by decide +kernel
theorem dX11_boat_147 : decode cX11_boat 147 = .ok (.iadd, 1) := by decide +kernel
theorem dX11_boat_148 : decode cX11_boat 148 = .ok (.putfield 99, 3) := by decide +kernel
theorem dX11_boat_151 : decode cX11_boat 151 = .ok (.ireturn, 1) := by decide +kernel
theorem dX11_set_0 : decode cX11_set 0 = .ok (.iload_n 1, 1) := by decide +kernel
theorem dX11_set_1 : decode cX11_set 1 = .ok (.iconst 2, 1) := by decide +kernel
theorem dX11_set_2 : decode cX11_set 2 = .ok (.if_icmp .ne 7, 3) := by decide +kernel
theorem dX11_set_5 : decode cX11_set 5 = .ok (.iconst 5, 1) := by decide +kernel
theorem dX11_set_6 : decode cX11_set 6 = .ok (.goto 20, 3) := by decide +kernel
theorem dX11_set_9 : decode cX11_set 9 = .ok (.iload_n 1, 1) := by decide +kernel
theorem dX11_set_10 : decode cX11_set 10 = .ok (.bipush 6, 2) := by decide +kernel
theorem dX11_set_12 : decode cX11_set 12 = .ok (.if_icmp .eq 9, 3) := by decide +kernel
theorem dX11_set_15 : decode cX11_set 15 = .ok (.iload_n 1, 1) := by decide +kernel
theorem dX11_set_16 : decode cX11_set 16 = .ok (.bipush 7, 2) := by decide +kernel
theorem dX11_set_18 : decode cX11_set 18 = .ok (.if_icmp .ne 7, 3) := by decide +kernel
theorem dX11_set_21 : decode cX11_set 21 = .ok (.iconst 1, 1) := by decide +kernel
theorem dX11_set_22 : decode cX11_set 22 = .ok (.goto 4, 3) := by decide +kernel
theorem dX11_set_25 : decode cX11_set 25 = .ok (.iconst 0, 1) := by decide +kernel
theorem dX11_set_26 : decode cX11_set 26 = .ok (.istore 4, 2) := by decide +kernel
theorem dX11_set_28 : decode cX11_set 28 = .ok (.iload_n 1, 1) := by decide +kernel
theorem dX11_set_29 : decode cX11_set 29 = .ok (.ifCond .eq 8, 3) := by decide +kernel
theorem dX11_set_32 : decode cX11_set 32 = .ok (.iload_n 1, 1) := by decide +kernel
theorem dX11_set_33 : decode cX11_set 33 = .ok (.iconst 4, 1) := by decide +kernel
theorem dX11_set_34 : decode cX11_set 34 = .ok (.if_icmp .ne 8, 3) := by decide +kernel
theorem dX11_set_37 : decode cX11_set 37 = .ok (.bipush 47, 2) := by decide +kernel
theorem dX11_set_39 : decode cX11_set 39 = .ok (.goto 49, 3) := by decide +kernel
theorem dX11_set_42 : decode cX11_set 42 = .ok (.iload_n 1, 1) := by decide +kernel
theorem dX11_set_43 : decode cX11_set 43 = .ok (.iconst 1, 1) := by decide +kernel
theorem dX11_set_44 : decode cX11_set 44 = .ok (.if_icmp .ne 9, 3) := by decide +kernel
theorem dX11_set_47 : decode cX11_set 47 = .ok (.sipush 999, 3) := by decide +kernel
theorem dX11_set_50 : decode cX11_set 50 = .ok (.goto 38, 3) := by decide +kernel
theorem dX11_set_53 : decode cX11_set 53 = .ok (.iload_n 1, 1) := by decide +kernel
theorem dX11_set_54 : decode cX11_set 54 = .ok (.iconst 2, 1) := by decide +kernel
theorem dX11_set_55 : decode cX11_set 55 = .ok (.if_icmp .ne 9, 3) := by decide +kernel
theorem dX11_set_58 : decode cX11_set 58 = .ok (.sipush 240, 3) := by decide +kernel
theorem dX11_set_61 : decode cX11_set 61 = .ok (.goto 27, 3) := by decide +kernel
theorem dX11_set_64 : decode cX11_set 64 = .ok (.iload_n 1, 1) := by decide +kernel
theorem dX11_set_65 : decode cX11_set 65 = .ok (.bipush 6, 2) := by decide +kernel
theorem dX11_set_67 : decode cX11_set 67 = .ok (.if_icmp .ne 8, 3) := by decide +kernel
theorem dX11_set_70 : decode cX11_set 70 = .ok (.bipush 6, 2) := by decide +kernel
theorem dX11_set_72 : decode cX11_set 72 = .ok (.goto 16, 3) := by decide +kernel
theorem dX11_set_75 : decode cX11_set 75 = .ok (.iload_n 1, 1) := by decide +kernel
theorem dX11_set_76 : decode cX11_set 76 = .ok (.bipush 8, 2) := by decide +kernel
theorem dX11_set_78 : decode cX11_set 78 = .ok (.if_icmp .ne 8, 3) := by decide +kernel
theorem dX11_set_81 : decode cX11_set 81 = .ok (.bipush 20, 2) := by decide +kernel
theorem dX11_set_83 : decode cX11_set 83 = .ok (.goto 5, 3) := by decide +kernel
theorem dX11_set_86 : decode cX11_set 86 = .ok (.bipush 9, 2) := by decide +kernel
theorem dX11_set_88 : decode cX11_set 88 = .ok (.istore 5, 2) := by decide +kernel
theorem dX11_set_90 : decode cX11_set 90 = .ok (.iload_n 1, 1) := by decide +kernel
theorem dX11_set_91 : decode cX11_set 91 = .ok (.iconst 0, 1) := by decide +kernel
theorem dX11_set_92 : decode cX11_set 92 = .ok (.bipush 8, 2) := by decide +kernel
theorem dX11_set_94 : decode cX11_set 94 = .ok (.invokestatic 102, 3) := by decide +kernel
theorem dX11_set_97 : decode cX11_set 97 = .ok (.ifCond .eq 27, 3) := by decide +kernel
theorem dX11_set_100 : decode cX11_set 100 = .ok (.iload_n 1, 1) := by decide +kernel
theorem dX11_set_101 : decode cX11_set 101 = .ok (.iconst 4, 1) := by decide +kernel
theorem dX11_set_102 : decode cX11_set 102 = .ok (.if_icmp .ge 11, 3) := by decide +kernel
theorem dX11_set_105 : decode cX11_set 105 = .ok (.aload_n 0, 1) := by decide +kernel
theorem dX11_set_106 : decode cX11_set 106 = .ok (.iload_n 2, 1) := by decide +kernel
theorem dX11_set_107 : decode cX11_set 107 = .ok (.invokevirtual 112, 3) := by decide +kernel
theorem dX11_set_110 : decode cX11_set 110 = .ok (.ifCond .eq 14, 3) := by decide +kernel
theorem dX11_set_113 : decode cX11_set 113 = .ok (.iload_n 3, 1) := by decide +kernel
theorem dX11_set_114 : decode cX11_set 114 = .ok (.iload 4, 2) := by decide +kernel
theorem dX11_set_116 : decode cX11_set 116 = .ok (.iload 5, 2) := by decide +kernel
theorem dX11_set_118 : decode cX11_set 118 = .ok (.invokestatic 102, 3) := by decide +kernel
theorem dX11_set_121 : decode cX11_set 121 = .ok (.ifCond .ne 6, 3) := by decide +kernel
theorem dX11_set_124 : decode cX11_set 124 = .ok (.bipush (-2), 2) := by decide +kernel
theorem dX11_set_126 : decode cX11_set 126 = .ok (.ireturn, 1) := by decide +kernel
theorem dX11_set_127 : decode cX11_set 127 = .ok (.iload_n 1, 1) := by decide +kernel
theorem dX11_set_128 : decode cX11_set 128 = .ok (.tableswitch 176 0 7 #[48, 66, 84, 102, 120, 134, 148, 162], 48) := by decide +kernel
theorem dX11_set_176 : decode cX11_set 176 = .ok (.aload_n 0, 1) := by decide +kernel
theorem dX11_set_177 : decode cX11_set 177 = .ok (.getfield 16, 3) := by decide +kernel
theorem dX11_set_180 : decode cX11_set 180 = .ok (.iload_n 2, 1) := by decide +kernel
theorem dX11_set_181 : decode cX11_set 181 = .ok (.iaload, 1) := by decide +kernel
theorem dX11_set_182 : decode cX11_set 182 = .ok (.istore 6, 2) := by decide +kernel
theorem dX11_set_184 : decode cX11_set 184 = .ok (.aload_n 0, 1) := by decide +kernel
theorem dX11_set_185 : decode cX11_set 185 = .ok (.getfield 16, 3) := by decide +kernel
theorem dX11_set_188 : decode cX11_set 188 = .ok (.iload_n 2, 1) := by decide +kernel
theorem dX11_set_189 : decode cX11_set 189 = .ok (.iload_n 3, 1) := by decide +kernel
theorem dX11_set_190 : decode cX11_set 190 = .ok (.iastore, 1) := by decide +kernel
theorem dX11_set_191 : decode cX11_set 191 = .ok (.iload 6, 2) := by decide +kernel
theorem dX11_set_193 : decode cX11_set 193 = .ok (.ireturn, 1) := by decide +kernel
theorem dX11_set_194 : decode cX11_set 194 = .ok (.aload_n 0, 1) := by decide +kernel
theorem dX11_set_195 : decode cX11_set 195 = .ok (.getfield 19, 3) := by decide +kernel
theorem dX11_set_198 : decode cX11_set 198 = .ok (.iload_n 2, 1) := by decide +kernel
theorem dX11_set_199 : decode cX11_set 199 = .ok (.iaload, 1) := by decide +kernel
theorem dX11_set_200 : decode cX11_set 200 = .ok (.istore 6, 2) := by decide +kernel
theorem dX11_set_202 : decode cX11_set 202 = .ok (.aload_n 0, 1) := by decide +kernel
theorem dX11_set_203 : decode cX11_set 203 = .ok (.getfield 19, 3) := by decide +kernel
theorem dX11_set_206 : decode cX11_set 206 = .ok (.iload_n 2, 1) := by decide +kernel
theorem dX11_set_207 : decode cX11_set 207 = .ok (.iload_n 3, 1) := by decide +kernel
theorem dX11_set_208 : decode cX11_set 208 = .ok (.iastore, 1) := by decide +kernel
theorem dX11_set_209 : decode cX11_set 209 = .ok (.iload 6, 2) := by decide +kernel
theorem dX11_set_211 : decode cX11_set 211 = .ok (.ireturn, 1) := by decide +kernel
theorem dX11_set_212 : decode cX11_set 212 = .ok (.aload_n 0, 1) := by decide +kernel
theorem dX11_set_213 : decode cX11_set 213 = .ok (.getfield 22, 3) := by decide +kernel
theorem dX11_set_216 : decode cX11_set 216 = .ok (.iload_n 2, 1) := by decide +kernel
theorem dX11_set_217 : decode cX11_set 217 = .ok (.iaload, 1) := by decide +kernel
theorem dX11_set_218 : decode cX11_set 218 = .ok (.istore 6, 2) := by decide +kernel
theorem dX11_set_220 : decode cX11_set 220 = .ok (.aload_n 0, 1) := by decide +kernel
theorem dX11_set_221 : decode cX11_set 221 = .ok (.getfield 22, 3) := by decide +kernel
theorem dX11_set_224 : decode cX11_set 224 = .ok (.iload_n 2, 1) := by decide +kernel
theorem dX11_set_225 : decode cX11_set 225 = .ok (.iload_n 3, 1) := by decide +kernel
theorem dX11_set_226 : decode cX11_set 226 = .ok (.iastore, 1) := by decide +kernel
theorem dX11_set_227 : decode cX11_set 227 = .ok (.iload 6, 2) := by decide +kernel
theorem dX11_set_229 : decode cX11_set 229 = .ok (.ireturn, 1) := by decide +kernel
theorem dX11_set_230 : decode cX11_set 230 = .ok (.aload_n 0, 1) := by decide +kernel
theorem dX11_set_231 : decode cX11_set 231 = .ok (.getfield 13, 3) := by decide +kernel
theorem dX11_set_234 : decode cX11_set 234 = .ok (.iload_n 2, 1) := by decide +kernel
theorem dX11_set_235 : decode cX11_set 235 = .ok (.iaload, 1) := by decide +kernel
theorem dX11_set_236 : decode cX11_set 236 = .ok (.istore 6, 2) := by decide +kernel
theorem dX11_set_238 : decode cX11_set 238 = .ok (.aload_n 0, 1) := by decide +kernel
theorem dX11_set_239 : decode cX11_set 239 = .ok (.getfield 13, 3) := by decide +kernel
theorem dX11_set_242 : decode cX11_set 242 = .ok (.iload_n 2, 1) := by decide +kernel
theorem dX11_set_243 : decode cX11_set 243 = .ok (.iload_n 3, 1) := by decide +kernel
theorem dX11_set_244 : decode cX11_set 244 = .ok (.iastore, 1) := by decide +kernel
theorem dX11_set_245 : decode cX11_set 245 = .ok (.iload 6, 2) := by decide +kernel
theorem dX11_set_247 : decode cX11_set 247 = .ok (.ireturn, 1) := by decide +kernel
theorem dX11_set_248 : decode cX11_set 248 = .ok (.aload_n 0, 1) := by decide +kernel
theorem dX11_set_249 : decode cX11_set 249 = .ok (.getfield 70, 3) := by decide +kernel
theorem dX11_set_252 : decode cX11_set 252 = .ok (.istore 6, 2) := by decide +kernel
theorem dX11_set_254 : decode cX11_set 254 = .ok (.aload_n 0, 1) := by decide +kernel
theorem dX11_set_255 : decode cX11_set 255 = .ok (.iload_n 3, 1) := by decide +kernel
theorem dX11_set_256 : decode cX11_set 256 = .ok (.putfield 70, 3) := by decide +kernel
theorem dX11_set_259 : decode cX11_set 259 = .ok (.iload 6, 2) := by decide +kernel
theorem dX11_set_261 : decode cX11_set 261 = .ok (.ireturn, 1) := by decide +kernel
theorem dX11_set_262 : decode cX11_set 262 = .ok (.aload_n 0, 1) := by decide +kernel
theorem dX11_set_263 : decode cX11_set 263 = .ok (.getfield 116, 3) := by decide +kernel
theorem dX11_set_266 : decode cX11_set 266 = .ok (.istore 6, 2) := by decide +kernel
theorem dX11_set_268 : decode cX11_set 268 = .ok (.aload_n 0, 1) := by decide +kernel
theorem dX11_set_269 : decode cX11_set 269 = .ok (.iload_n 3, 1) := by decide +kernel
theorem dX11_set_270 : decode cX11_set 270 = .ok (.putfield 116, 3) := by decide +kernel
theorem dX11_set_273 : decode cX11_set 273 = .ok (.iload 6, 2) := by decide +kernel
theorem dX11_set_275 : decode cX11_set 275 = .ok (.ireturn, 1) := by decide +kernel
theorem dX11_set_276 : decode cX11_set 276 = .ok (.aload_n 0, 1) := by decide +kernel
theorem dX11_set_277 : decode cX11_set 277 = .ok (.getfield 74, 3) := by decide +kernel
theorem dX11_set_280 : decode cX11_set 280 = .ok (.istore 6, 2) := by decide +kernel
theorem dX11_set_282 : decode cX11_set 282 = .ok (.aload_n 0, 1) := by decide +kernel
theorem dX11_set_283 : decode cX11_set 283 = .ok (.iload_n 3, 1) := by decide +kernel
theorem dX11_set_284 : decode cX11_set 284 = .ok (.putfield 74, 3) := by decide +kernel
theorem dX11_set_287 : decode cX11_set 287 = .ok (.iload 6, 2) := by decide +kernel
theorem dX11_set_289 : decode cX11_set 289 = .ok (.ireturn, 1) := by decide +kernel
theorem dX11_set_290 : decode cX11_set 290 = .ok (.aload_n 0, 1) := by decide +kernel
theorem dX11_set_291 : decode cX11_set 291 = .ok (.getfield 77, 3) := by decide +kernel
theorem dX11_set_294 : decode cX11_set 294 = .ok (.istore 6, 2) := by decide +kernel
theorem dX11_set_296 : decode cX11_set 296 = .ok (.aload_n 0, 1) := by decide +kernel
theorem dX11_set_297 : decode cX11_set 297 = .ok (.iload_n 3, 1) := by decide +kernel
theorem dX11_set_298 : decode cX11_set 298 = .ok (.putfield 77, 3) := by decide +kernel
theorem dX11_set_301 : decode cX11_set 301 = .ok (.iload 6, 2) := by decide +kernel
theorem dX11_set_303 : decode cX11_set 303 = .ok (.ireturn, 1) := by decide +kernel
theorem dX11_set_304 : decode cX11_set 304 = .ok (.aload_n 0, 1) := by decide +kernel
theorem dX11_set_305 : decode cX11_set 305 = .ok (.getfield 119, 3) := by decide +kernel
theorem dX11_set_308 : decode cX11_set 308 = .ok (.istore 6, 2) := by decide +kernel
theorem dX11_set_310 : decode cX11_set 310 = .ok (.aload_n 0, 1) := by decide +kernel
theorem dX11_set_311 : decode cX11_set 311 = .ok (.iload_n 3, 1) := by decide +kernel
theorem dX11_set_312 : decode cX11_set 312 = .ok (.putfield 119, 3) := by decide +kernel
theorem dX11_set_315 : decode cX11_set 315 = .ok (.iload 6, 2) := by decide +kernel
theorem dX11_set_317 : decode cX11_set 317 = .ok (.ireturn, 1) := by decide +kernel
theorem dX11_rows_0 : decode cX11_rows 0 = .ok (.iconst 2, 1) := by decide +kernel
theorem dX11_rows_1 : decode cX11_rows 1 = .ok (.aload_n 0, 1) := by decide +kernel
theorem dX11_rows_2 : decode cX11_rows 2 = .ok (.getfield 116, 3) := by decide +kernel
theorem dX11_rows_5 : decode cX11_rows 5 = .ok (.iconst 2, 1) := by decide +kernel
theorem dX11_rows_6 : decode cX11_rows 6 = .ok (.idiv, 1) := by decide +kernel
theorem dX11_rows_7 : decode cX11_rows 7 = .ok (.iadd, 1) := by decide +kernel
theorem dX11_rows_8 : decode cX11_rows 8 = .ok (.istore_n 2, 1) := by decide +kernel
theorem dX11_rows_9 : decode cX11_rows 9 = .ok (.aload_n 0, 1) := by decide +kernel
theorem dX11_rows_10 : decode cX11_rows 10 = .ok (.getfield 7, 3) := by decide +kernel
theorem dX11_rows_13 : decode cX11_rows 13 = .ok (.iload_n 1, 1) := by decide +kernel
theorem dX11_rows_14 : decode cX11_rows 14 = .ok (.iaload, 1) := by decide +kernel
theorem dX11_rows_15 : decode cX11_rows 15 = .ok (.tableswitch 66 1 5 #[33, 37, 44, 55, 62], 33) := by decide +kernel
theorem dX11_rows_48 : decode cX11_rows 48 = .ok (.iload_n 2, 1) := by decide +kernel
theorem dX11_rows_49 : decode cX11_rows 49 = .ok (.iconst 1, 1) := by decide +kernel
theorem dX11_rows_50 : decode cX11_rows 50 = .ok (.isub, 1) := by decide +kernel
theorem dX11_rows_51 : decode cX11_rows 51 = .ok (.ireturn, 1) := by decide +kernel
theorem dX11_rows_52 : decode cX11_rows 52 = .ok (.iload_n 2, 1) := by decide +kernel
theorem dX11_rows_53 : decode cX11_rows 53 = .ok (.aload_n 0, 1) := by decide +kernel
theorem dX11_rows_54 : decode cX11_rows 54 = .ok (.getfield 116, 3) := by decide +kernel
theorem dX11_rows_57 : decode cX11_rows 57 = .ok (.iadd, 1) := by decide +kernel
theorem dX11_rows_58 : decode cX11_rows 58 = .ok (.ireturn, 1) := by decide +kernel
theorem dX11_rows_59 : decode cX11_rows 59 = .ok (.iload_n 2, 1) := by decide +kernel
theorem dX11_rows_60 : decode cX11_rows 60 = .ok (.iconst 1, 1) := by decide +kernel
theorem dX11_rows_61 : decode cX11_rows 61 = .ok (.isub, 1) := by decide +kernel
theorem dX11_rows_62 : decode cX11_rows 62 = .ok (.aload_n 0, 1) := by decide +kernel
theorem dX11_rows_63 : decode cX11_rows 63 = .ok (.getfield 13, 3) := by decide +kernel
theorem dX11_rows_66 : decode cX11_rows 66 = .ok (.iload_n 1, 1) := by decide +kernel
theorem dX11_rows_67 : decode cX11_rows 67 = .ok (.iaload, 1) := by decide +kernel
theorem dX11_rows_68 : decode cX11_rows 68 = .ok (.iadd, 1) := by decide +kernel
theorem dX11_rows_69 : decode cX11_rows 69 = .ok (.ireturn, 1) := by decide +kernel
theorem dX11_rows_70 : decode cX11_rows 70 = .ok (.iload_n 2, 1) := by decide +kernel
theorem dX11_rows_71 : decode cX11_rows 71 = .ok (.aload_n 0, 1) := by decide +kernel
theorem dX11_rows_72 : decode cX11_rows 72 = .ok (.getfield 116, 3) := by decide +kernel
theorem dX11_rows_75 : decode cX11_rows 75 = .ok (.iadd, 1) := by decide +kernel
theorem dX11_rows_76 : decode cX11_rows 76 = .ok (.ireturn, 1) := by decide +kernel
theorem dX11_rows_77 : decode cX11_rows 77 = .ok (.iconst 2, 1) := by decide +kernel
theorem dX11_rows_78 : decode cX11_rows 78 = .ok (.iload_n 2, 1) := by decide +kernel
theorem dX11_rows_79 : decode cX11_rows 79 = .ok (.imul, 1) := by decide +kernel
theorem dX11_rows_80 : decode cX11_rows 80 = .ok (.ireturn, 1) := by decide +kernel
theorem dX11_rows_81 : decode cX11_rows 81 = .ok (.iload_n 2, 1) := by decide +kernel
theorem dX11_rows_82 : decode cX11_rows 82 = .ok (.ireturn, 1) := by decide +kernel
theorem dX11_hearing_0 : decode cX11_hearing 0 = .ok (.bipush 12, 2) := by decide +kernel
theorem dX11_hearing_2 : decode cX11_hearing 2 = .ok (.aload_n 0, 1) := by decide +kernel
theorem dX11_hearing_3 : decode cX11_hearing 3 = .ok (.getfield 116, 3) := by decide +kernel
theorem dX11_hearing_6 : decode cX11_hearing 6 = .ok (.isub, 1) := by decide +kernel
theorem dX11_hearing_7 : decode cX11_hearing 7 = .ok (.istore_n 2, 1) := by decide +kernel
theorem dX11_hearing_8 : decode cX11_hearing 8 = .ok (.aload_n 0, 1) := by decide +kernel
theorem dX11_hearing_9 : decode cX11_hearing 9 = .ok (.getfield 7, 3) := by decide +kernel
theorem dX11_hearing_12 : decode cX11_hearing 12 = .ok (.iload_n 1, 1) := by decide +kernel
theorem dX11_hearing_13 : decode cX11_hearing 13 = .ok (.iaload, 1) := by decide +kernel
theorem dX11_hearing_14 : decode cX11_hearing 14 = .ok (.tableswitch 88 1 5 #[34, 43, 51, 60, 70], 34) := by decide +kernel
theorem dX11_hearing_48 : decode cX11_hearing 48 = .ok (.iload_n 2, 1) := by decide +kernel
theorem dX11_hearing_49 : decode cX11_hearing 49 = .ok (.aload_n 0, 1) := by decide +kernel
theorem dX11_hearing_50 : decode cX11_hearing 50 = .ok (.getfield 13, 3) := by decide +kernel
theorem dX11_hearing_53 : decode cX11_hearing 53 = .ok (.iload_n 1, 1) := by decide +kernel
theorem dX11_hearing_54 : decode cX11_hearing 54 = .ok (.iaload, 1) := by decide +kernel
theorem dX11_hearing_55 : decode cX11_hearing 55 = .ok (.iadd, 1) := by decide +kernel
theorem dX11_hearing_56 : decode cX11_hearing 56 = .ok (.ireturn, 1) := by decide +kernel
theorem dX11_hearing_57 : decode cX11_hearing 57 = .ok (.iconst 0, 1) := by decide +kernel
theorem dX11_hearing_58 : decode cX11_hearing 58 = .ok (.iload_n 2, 1) := by decide +kernel
theorem dX11_hearing_59 : decode cX11_hearing 59 = .ok (.iconst 3, 1) := by decide +kernel
theorem dX11_hearing_60 : decode cX11_hearing 60 = .ok (.isub, 1) := by decide +kernel
theorem dX11_hearing_61 : decode cX11_hearing 61 = .ok (.invokestatic 122, 3) := by decide +kernel
theorem dX11_hearing_64 : decode cX11_hearing 64 = .ok (.ireturn, 1) := by decide +kernel
theorem dX11_hearing_65 : decode cX11_hearing 65 = .ok (.iload_n 2, 1) := by decide +kernel
theorem dX11_hearing_66 : decode cX11_hearing 66 = .ok (.aload_n 0, 1) := by decide +kernel
theorem dX11_hearing_67 : decode cX11_hearing 67 = .ok (.getfield 13, 3) := by decide +kernel
theorem dX11_hearing_70 : decode cX11_hearing 70 = .ok (.iload_n 1, 1) := by decide +kernel
theorem dX11_hearing_71 : decode cX11_hearing 71 = .ok (.iaload, 1) := by decide +kernel
theorem dX11_hearing_72 : decode cX11_hearing 72 = .ok (.iadd, 1) := by decide +kernel
theorem dX11_hearing_73 : decode cX11_hearing 73 = .ok (.ireturn, 1) := by decide +kernel
theorem dX11_hearing_74 : decode cX11_hearing 74 = .ok (.iconst 0, 1) := by decide +kernel
theorem dX11_hearing_75 : decode cX11_hearing 75 = .ok (.iload_n 2, 1) := by decide +kernel
theorem dX11_hearing_76 : decode cX11_hearing 76 = .ok (.iconst 3, 1) := by decide +kernel
theorem dX11_hearing_77 : decode cX11_hearing 77 = .ok (.isub, 1) := by decide +kernel
theorem dX11_hearing_78 : decode cX11_hearing 78 = .ok (.iconst 2, 1) := by decide +kernel
theorem dX11_hearing_79 : decode cX11_hearing 79 = .ok (.idiv, 1) := by decide +kernel
theorem dX11_hearing_80 : decode cX11_hearing 80 = .ok (.invokestatic 122, 3) := by decide +kernel
theorem dX11_hearing_83 : decode cX11_hearing 83 = .ok (.ireturn, 1) := by decide +kernel
theorem dX11_hearing_84 : decode cX11_hearing 84 = .ok (.aload_n 0, 1) := by decide +kernel
theorem dX11_hearing_85 : decode cX11_hearing 85 = .ok (.getfield 13, 3) := by decide +kernel
theorem dX11_hearing_88 : decode cX11_hearing 88 = .ok (.iload_n 1, 1) := by decide +kernel
theorem dX11_hearing_89 : decode cX11_hearing 89 = .ok (.iaload, 1) := by decide +kernel
theorem dX11_hearing_90 : decode cX11_hearing 90 = .ok (.iconst 2, 1) := by decide +kernel
theorem dX11_hearing_91 : decode cX11_hearing 91 = .ok (.irem, 1) := by decide +kernel
theorem dX11_hearing_92 : decode cX11_hearing 92 = .ok (.iconst 1, 1) := by decide +kernel
theorem dX11_hearing_93 : decode cX11_hearing 93 = .ok (.if_icmp .ne 7, 3) := by decide +kernel
theorem dX11_hearing_96 : decode cX11_hearing 96 = .ok (.iconst 0, 1) := by decide +kernel
theorem dX11_hearing_97 : decode cX11_hearing 97 = .ok (.goto 4, 3) := by decide +kernel
theorem dX11_hearing_100 : decode cX11_hearing 100 = .ok (.iload_n 2, 1) := by decide +kernel
theorem dX11_hearing_101 : decode cX11_hearing 101 = .ok (.ireturn, 1) := by decide +kernel
theorem dX11_hearing_102 : decode cX11_hearing 102 = .ok (.iload_n 2, 1) := by decide +kernel
theorem dX11_hearing_103 : decode cX11_hearing 103 = .ok (.ireturn, 1) := by decide +kernel
theorem dX11_rules_0 : decode cX11_rules 0 = .ok (.aload_n 0, 1) := by decide +kernel
theorem dX11_rules_1 : decode cX11_rules 1 = .ok (.getfield 43, 3) := by decide +kernel
theorem dX11_rules_4 : decode cX11_rules 4 = .ok (.iconst 0, 1) := by decide +kernel
theorem dX11_rules_5 : decode cX11_rules 5 = .ok (.iload_n 3, 1) := by decide +kernel
theorem dX11_rules_6 : decode cX11_rules 6 = .ok (.iconst 0, 1) := by decide +kernel
theorem dX11_rules_7 : decode cX11_rules 7 = .ok (.invokestatic 126, 3) := by decide +kernel
theorem dX11_rules_10 : decode cX11_rules 10 = .ok (.iastore, 1) := by decide +kernel
theorem dX11_rules_11 : decode cX11_rules 11 = .ok (.aload_n 0, 1) := by decide +kernel
theorem dX11_rules_12 : decode cX11_rules 12 = .ok (.getfield 43, 3) := by decide +kernel
theorem dX11_rules_15 : decode cX11_rules 15 = .ok (.iconst 1, 1) := by decide +kernel
theorem dX11_rules_16 : decode cX11_rules 16 = .ok (.aload_n 0, 1) := by decide +kernel
theorem dX11_rules_17 : decode cX11_rules 17 = .ok (.getfield 116, 3) := by decide +kernel
theorem dX11_rules_20 : decode cX11_rules 20 = .ok (.iastore, 1) := by decide +kernel
theorem dX11_rules_21 : decode cX11_rules 21 = .ok (.aload_n 0, 1) := by decide +kernel
theorem dX11_rules_22 : decode cX11_rules 22 = .ok (.getfield 43, 3) := by decide +kernel
theorem dX11_rules_25 : decode cX11_rules 25 = .ok (.iconst 2, 1) := by decide +kernel
theorem dX11_rules_26 : decode cX11_rules 26 = .ok (.iload 4, 2) := by decide +kernel
theorem dX11_rules_28 : decode cX11_rules 28 = .ok (.aload_n 0, 1) := by decide +kernel
theorem dX11_rules_29 : decode cX11_rules 29 = .ok (.getfield 19, 3) := by decide +kernel
theorem dX11_rules_32 : decode cX11_rules 32 = .ok (.iload_n 2, 1) := by decide +kernel
theorem dX11_rules_33 : decode cX11_rules 33 = .ok (.iaload, 1) := by decide +kernel
theorem dX11_rules_34 : decode cX11_rules 34 = .ok (.isub, 1) := by decide +kernel
theorem dX11_rules_35 : decode cX11_rules 35 = .ok (.aload_n 0, 1) := by decide +kernel
theorem dX11_rules_36 : decode cX11_rules 36 = .ok (.getfield 22, 3) := by decide +kernel
theorem dX11_rules_39 : decode cX11_rules 39 = .ok (.iload_n 2, 1) := by decide +kernel
theorem dX11_rules_40 : decode cX11_rules 40 = .ok (.iaload, 1) := by decide +kernel
theorem dX11_rules_41 : decode cX11_rules 41 = .ok (.isub, 1) := by decide +kernel
theorem dX11_rules_42 : decode cX11_rules 42 = .ok (.iastore, 1) := by decide +kernel
theorem dX11_rules_43 : decode cX11_rules 43 = .ok (.aload_n 0, 1) := by decide +kernel
theorem dX11_rules_44 : decode cX11_rules 44 = .ok (.getfield 43, 3) := by decide +kernel
theorem dX11_rules_47 : decode cX11_rules 47 = .ok (.iconst 3, 1) := by decide +kernel
theorem dX11_rules_48 : decode cX11_rules 48 = .ok (.iload_n 3, 1) := by decide +kernel
theorem dX11_rules_49 : decode cX11_rules 49 = .ok (.bipush 8, 2) := by decide +kernel
theorem dX11_rules_51 : decode cX11_rules 51 = .ok (.idiv, 1) := by decide +kernel
theorem dX11_rules_52 : decode cX11_rules 52 = .ok (.aload_n 0, 1) := by decide +kernel
theorem dX11_rules_53 : decode cX11_rules 53 = .ok (.getfield 70, 3) := by decide +kernel
theorem dX11_rules_56 : decode cX11_rules 56 = .ok (.bipush 8, 2) := by decide +kernel
theorem dX11_rules_58 : decode cX11_rules 58 = .ok (.idiv, 1) := by decide +kernel
theorem dX11_rules_59 : decode cX11_rules 59 = .ok (.if_icmp .ne 21, 3) := by decide +kernel
theorem dX11_rules_62 : decode cX11_rules 62 = .ok (.iload_n 3, 1) := by decide +kernel
theorem dX11_rules_63 : decode cX11_rules 63 = .ok (.bipush 8, 2) := by decide +kernel
theorem dX11_rules_65 : decode cX11_rules 65 = .ok (.irem, 1) := by decide +kernel
theorem dX11_rules_66 : decode cX11_rules 66 = .ok (.aload_n 0, 1) := by decide +kernel
theorem dX11_rules_67 : decode cX11_rules 67 = .ok (.getfield 70, 3) := by decide +kernel
theorem dX11_rules_70 : decode cX11_rules 70 = .ok (.bipush 8, 2) := by decide +kernel
theorem dX11_rules_72 : decode cX11_rules 72 = .ok (.irem, 1) := by decide +kernel
theorem dX11_rules_73 : decode cX11_rules 73 = .ok (.if_icmp .le 7, 3) := by decide +kernel
theorem dX11_rules_76 : decode cX11_rules 76 = .ok (.iconst 1, 1) := by decide +kernel
theorem dX11_rules_77 : decode cX11_rules 77 = .ok (.goto 4, 3) := by decide +kernel
theorem dX11_rules_80 : decode cX11_rules 80 = .ok (.iconst 0, 1) := by decide +kernel
theorem dX11_rules_81 : decode cX11_rules 81 = .ok (.iastore, 1) := by decide +kernel
theorem dX11_rules_82 : decode cX11_rules 82 = .ok (.aload_n 0, 1) := by decide +kernel
theorem dX11_rules_83 : decode cX11_rules 83 = .ok (.getfield 43, 3) := by decide +kernel
theorem dX11_rules_86 : decode cX11_rules 86 = .ok (.iconst 4, 1) := by decide +kernel
theorem dX11_rules_87 : decode cX11_rules 87 = .ok (.iload_n 2, 1) := by decide +kernel
theorem dX11_rules_88 : decode cX11_rules 88 = .ok (.iastore, 1) := by decide +kernel
theorem dX11_rules_89 : decode cX11_rules 89 = .ok (.aload_n 0, 1) := by decide +kernel
theorem dX11_rules_90 : decode cX11_rules 90 = .ok (.getfield 43, 3) := by decide +kernel
theorem dX11_rules_93 : decode cX11_rules 93 = .ok (.iconst 5, 1) := by decide +kernel
theorem dX11_rules_94 : decode cX11_rules 94 = .ok (.iload 4, 2) := by decide +kernel
theorem dX11_rules_96 : decode cX11_rules 96 = .ok (.iastore, 1) := by decide +kernel
theorem dX11_rules_97 : decode cX11_rules 97 = .ok (.aload_n 0, 1) := by decide +kernel
theorem dX11_rules_98 : decode cX11_rules 98 = .ok (.getfield 37, 3) := by decide +kernel
theorem dX11_rules_101 : decode cX11_rules 101 = .ok (.iconst 4, 1) := by decide +kernel
theorem dX11_rules_102 : decode cX11_rules 102 = .ok (.aload_n 0, 1) := by decide +kernel
theorem dX11_rules_103 : decode cX11_rules 103 = .ok (.getfield 129, 3) := by decide +kernel
theorem dX11_rules_106 : decode cX11_rules 106 = .ok (.imul, 1) := by decide +kernel
theorem dX11_rules_107 : decode cX11_rules 107 = .ok (.iload_n 1, 1) := by decide +kernel
theorem dX11_rules_108 : decode cX11_rules 108 = .ok (.iadd, 1) := by decide +kernel
theorem dX11_rules_109 : decode cX11_rules 109 = .ok (.iconst 1, 1) := by decide +kernel
